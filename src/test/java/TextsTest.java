/** Promises 1 to 8, 10, 20, 32, 35: the tape, texts with their FAULTS, and what they tell. */
public final class TextsTest {
    private static final int NONE = SpoonShort.NONE;
    private static final String TWO = "person 1 1 0 0;person 1 1 0 0;";

    public static void main(String[] args) {
        newObject();
        tape();
        tokens();
        tableNumbers();
        tableFaults();
        heaps();
        books();
        hands();
        films();
        places();
        Check.finish();
    }

    private static void newObject() {
        SpoonShort x = new SpoonShort();
        Check.due("NONE", SpoonShort.NONE, -1);
        for (int sort = 0; sort < 5; sort++) {
            Check.due("count", x.count(sort), 0);
        }
        Check.due("count(-1)", x.count(-1), -2);
        Check.due("count(5)", x.count(5), -2);
        Check.due("fault(0)", x.fault(0), 0);
        Check.due("fault(1)", x.fault(1), NONE);
        Check.due("fault(2)", x.fault(2), NONE);
        Check.due("again(0)", x.again(0), false);
        Check.due("end(0)", x.end(0), 0);
        Check.due("end(1)", x.end(1), NONE);
        Check.due("table", x.table(0, 0), NONE);
        Check.due("person", x.person(0, 0, 0), -2);
        Check.due("card", x.card(0, NONE), -2);
        Check.due("fits", x.fits(0, 0), NONE);
        Check.due("deed", x.deed(0, NONE, 0), -2);
        Check.due("stop", x.stop(0, 0, 0), NONE);
        Check.due("state", x.state(0, 0, 0, 0, 0), -2);
        Check.due("holds", x.holds(0, 0, 0, 0, 0, NONE), -2);
        Check.due("round", x.round(0, 0, 0), -2);
        Check.due("behind", x.behind(0, 0, 0, 0, NONE), -2);
        Check.due("shuffled", x.shuffled(0, 1, 0), NONE);
        Check.due("evening", x.evening(0, 1, 0), -2);
        Check.due("luck", x.luck(0, 1, 1, 0), NONE);
        Check.due("otherwise", x.otherwise(0, 1, 1, 0, 0, 1, true), NONE);
        Check.due("hand", x.hand(0, 0), -2);
        Check.due("unseen", x.unseen(0, 0, 0), NONE);
        Check.due("within", x.within(0, 0, 0, false), NONE);
        Check.due("kept", x.kept(0, 0, 1, 0), NONE);
        Check.due("alone", x.alone(0, 0, 0, 0, false), NONE);
        Check.due("soonest", x.soonest(0, 0, 0, false), NONE);
        Check.due("keeps", x.keeps(0, 0, 0, 0, false), NONE);
        Check.due("looks", x.looks(0, 0, 1, NONE), NONE);
        Check.due("often", x.often(0, 0, 1), NONE);
        Check.due("rests", x.rests(0, NONE, NONE), NONE);
        Check.due("even", x.even(0, 0), NONE);
        Check.due("feint", x.feint(0, 0, 0), NONE);
        Check.due("frame", x.frame(0, NONE, 0), -2);
        Check.due("film", x.film(0, 0, 0), -2);
        Check.due("pulled", x.pulled(0, 0, 0, false), NONE);
    }

    private static void tape() {
        SpoonShort x = new SpoonShort();
        for (int i = 1; i <= 30; i++) {
            Check.due("feed " + i, x.feed(0x20202020, -1, 0, Integer.MIN_VALUE, 7), 20 * i);
        }
        Check.due("feed 31", x.feed(0, 0, 0, 0, 0), NONE);
        Check.due("end(601)", x.end(601), NONE);
        Check.due("end(-1)", x.end(-1), NONE);
        Check.due("end(min)", x.end(Integer.MIN_VALUE), NONE);
        Check.due("end(600)", x.end(600), 600);
        Check.due("end(581)", x.end(581), 581);
        Check.due("feed to 601", x.feed(0, 0, 0, 0, 0), NONE);
        Check.due("end(580)", x.end(580), 580);
        Check.due("end(581) again", x.end(581), NONE);
        Check.due("feed to 600", x.feed(0, 0, 0, 0, 0), 600);
        // Of each number the highest byte is first.
        x.end(0);
        x.feed(0x63617264, 0x73203320, 0x31320a37, 0x3b202020, 0x20202020);
        Check.due("text", x.text(1, NONE), 0);
        Check.due("card 0", x.card(0, 0), 3);
        Check.due("card 1", x.card(0, 1), 12);
        Check.due("card 2", x.card(0, 2), 7);
        Check.due("the tape is taken", x.end(1), NONE);
    }

    private static void tokens() {
        SpoonShort x = Check.fine(1, "cards0 01\n2;cards12;");
        Check.due("cards", x.card(0, NONE), 4);
        Check.due("01", x.card(0, 1), 1);
        Check.due("12", x.card(0, 3), 12);
        Check.faulty(x, 1, "cards 0 012;", 1, 8);
        Check.faulty(x, 1, "123", 1, 0);
        Check.faulty(x, 1, "Cards 0;", 1, 0);
        Check.faulty(x, 1, "cardS 0;", 1, 0);
        Check.faulty(x, 1, "cardsz 0;", 1, 0);
        Check.faulty(x, 1, "cards{0;", 1, 5);
        Check.faulty(x, 1, "cards`0;", 1, 5);
        Check.faulty(x, 1, "cards 0:;", 1, 7);
        Check.faulty(x, 1, "cards 0/;", 1, 7);
        Check.faulty(x, 1, "cards 0#;", 1, 7);
        Check.faulty(x, 1, "cards\t0;", 1, 5);
        Check.faulty(x, 1, "cards\r0;", 1, 5);
        Check.faulty(x, 1, "cards 0\u00ff;", 1, 7);
        Check.faulty(x, 1, "cards 0", 1, 7);
        Check.faulty(x, 1, "cards 0  ", 1, 9);
        Check.faulty(x, 1, "cards", 1, 5);
        Check.faulty(x, 1, "cards ;", 1, 6);
        Check.faulty(x, 1, ";", 1, 0);
        Check.faulty(x, 1, "cards 0;;", 1, 8);
        Check.faulty(x, 1, "cards 0;card 1;", 1, 8);
        Check.faulty(x, 1, "cards 0; cardss 1;", 1, 9);
        Check.faulty(x, 1, "hold 0;", 1, 0);
        Check.faulty(x, 1, "cards 0 cards 1;", 1, 8);
        // The first FAULT goes ahead of all others.
        Check.faulty(x, 1, "cards 13;x", 1, 9);
        Check.due("nothing came of them", x.count(1), 1);
        Check.fine(1, "");
        Check.fine(1, "  \n ");
    }

    private static void tableNumbers() {
        SpoonShort x = Check.fine(0, TWO);
        int[] first = {4, 4, 4, 1, 3, 2};
        for (int what = 0; what < 6; what++) {
            Check.due("table(0, " + what + ")", x.table(0, what), first[what]);
        }
        Check.due("table what -1", x.table(0, -1), NONE);
        Check.due("table what 6", x.table(0, 6), NONE);
        Check.due("table 1", x.table(1, 0), NONE);
        Check.due("table -1", x.table(-1, 0), NONE);
        int[] person = {1, 1, 0, 0, 0, NONE, 0};
        for (int what = 0; what < 7; what++) {
            Check.due("person(0, 1, " + what + ")", x.person(0, 1, what), person[what]);
        }
        Check.due("person what 7", x.person(0, 0, 7), -2);
        Check.due("person what -1", x.person(0, 0, -1), -2);
        Check.due("person 2", x.person(0, 2, 0), -2);
        Check.due("person -1", x.person(0, -1, 0), -2);
        Check.due("person at table 1", x.person(1, 0, 0), -2);

        x = Check.fine(0, "law 2 keep 1;jumpy 2;kinds 5;kinds 13;copies 1;copies 3;alike 4;alike 2;letters 3;letters 9;"
            + "out 9;out 0;person 9 8 7 20;person 2 1 0 0;person 1 9 9 1;jumpy 0;law 0 aim 12;law 1 aim 3;law 1 never;");
        int[] table = {13, 3, 2, 9, 0, 3};
        for (int what = 0; what < 6; what++) {
            Check.due("later ones strike: " + what, x.table(0, what), table[what]);
        }
        int[][] people = {{9, 8, 7, 20, 1, 12, 1}, {2, 1, 0, 0, 3, NONE, 0}, {1, 9, 9, 1, 2, 1, 1}};
        for (int p = 0; p < 3; p++) {
            for (int what = 0; what < 7; what++) {
                Check.due("person " + p + " " + what, x.person(0, p, what), people[p][what]);
            }
        }
        x = Check.fine(0, TWO + "law 1 keep 3;law 1 most;law 0 never;law 0 keep 2;");
        Check.due("law 1 most", x.person(0, 1, 4), 0);
        Check.due("law 1 has no KIND", x.person(0, 1, 5), NONE);
        Check.due("law 0 keep", x.person(0, 0, 4), 2);
        Check.due("law 0 keep 2", x.person(0, 0, 5), 2);
        Check.fine(0, "alike 2;" + TWO + TWO + TWO);
        Check.fine(0, "kinds 2;copies 1;alike 2;kinds 5;" + TWO);
    }

    private static void tableFaults() {
        SpoonShort x = new SpoonShort();
        String[] can = {"kinds 2", "kinds 13", "copies 4", "alike 2", "alike 3", "letters 1", "letters 9", "out 0", "out 9",
            "jumpy 1", "law 1 aim 3"};
        for (String line : can) {
            Check.fine(0, TWO + "copies 4;alike 2;" + line + ";");
        }
        String[] not = {"kinds 1", "kinds 14", "copies 0", "copies 5", "alike 1", "alike 5", "letters 0", "letters 10", "out 10",
            "jumpy 6", "person 0 1 0 0", "person 10 1 0 0", "law 6 most"};
        for (String line : not) {
            Check.faulty(x, 0, TWO + line + ";", 2, TWO.length() + line.indexOf(' ') + 1);
        }
        Check.faulty(x, 0, "person 1 0 0 0;", 2, 9);
        Check.faulty(x, 0, "person 1 10 0 0;", 2, 9);
        Check.faulty(x, 0, "person 1 1 10 0;", 2, 11);
        Check.faulty(x, 0, "person 1 1 0 21;", 2, 13);
        Check.faulty(x, 0, "law 0 aim 13;", 2, 10);
        Check.faulty(x, 0, "law 0 keep 99;", 2, 11);
        Check.faulty(x, 0, "law 6 keep 99;", 2, 4);
        Check.faulty(x, 0, "law 0 most 1;", 1, 11);
        Check.faulty(x, 0, "law 0 never 1;", 1, 12);
        Check.faulty(x, 0, "law 0 aim;", 1, 9);
        Check.faulty(x, 0, "law 0 keep 1 2;", 1, 13);
        Check.faulty(x, 0, "law most;", 1, 4);
        Check.faulty(x, 0, "law 0;", 1, 5);
        Check.faulty(x, 0, "law 0 kinds;", 1, 6);
        Check.faulty(x, 0, "law 0 ", 1, 6);
        Check.faulty(x, 0, "person 1 1 0;", 1, 12);
        Check.faulty(x, 0, "person 1 1 0 0 0;", 1, 15);
        Check.faulty(x, 0, "kinds 3 4;", 1, 8);
        Check.faulty(x, 0, "kinds;", 1, 5);
        String six = TWO + TWO + TWO;
        Check.faulty(x, 0, six + "person 1 1 0 0;", 3, 90);
        Check.faulty(x, 0, six + "person 0 1 0 0;", 3, 90);
        Check.faulty(x, 0, six + "kinds 1;person 1 1 0 0;", 2, 96);
        // The first by place, even if a later one has a lesser number.
        Check.faulty(x, 0, six + "person 1 1 0 0;kinds 1;", 3, 90);
        Check.faulty(x, 0, "", 4, 0);
        Check.faulty(x, 0, " ", 4, 1);
        Check.faulty(x, 0, "person 1 1 0 0;", 4, 15);
        Check.faulty(x, 0, TWO + "jumpy 2;", 4, 38);
        Check.faulty(x, 0, TWO + "law 2 most;\n", 4, 42);
        Check.faulty(x, 0, TWO + "law 0 aim 4;law 0 most;", 4, 53);
        Check.faulty(x, 0, TWO + "law 0 aim 3;kinds 3;", 4, 50);
        Check.faulty(x, 0, "kinds 2;" + TWO, 4, 38);
        Check.faulty(x, 0, "copies 2;" + TWO, 4, 39);
        Check.faulty(x, 0, "kinds 3;" + TWO + "person 1 1 0 0;", 4, 53);
        Check.due("no TABLE came", x.count(0), 0);
    }

    private static String many(String text, int times) {
        StringBuilder all = new StringBuilder();
        for (int i = 0; i < times; i++) {
            all.append(text);
        }
        return all.toString();
    }

    private static void heaps() {
        SpoonShort x = Check.fine(1, "cards 5 0;cards 12;");
        Check.due("cards", x.card(0, NONE), 3);
        Check.due("card 0", x.card(0, 0), 5);
        Check.due("card 2", x.card(0, 2), 12);
        Check.due("card 3", x.card(0, 3), -2);
        Check.due("card -2", x.card(0, -2), -2);
        Check.due("heap 1", x.card(1, 0), -2);
        Check.due("heap -1", x.card(-1, NONE), -2);
        Check.fine(1, "cards" + many(" 1", 52) + ";");
        Check.faulty(x, 1, "cards 13;", 2, 6);
        Check.faulty(x, 1, "cards" + many(" 1", 53) + ";", 3, 5 + 2 * 52 + 1);
        Check.faulty(x, 1, "cards" + many(" 1", 52) + ";cards 99;", 2, 5 + 2 * 52 + 1 + 6);
        Check.faulty(x, 1, "cards" + many(" 1", 53) + " 13;", 3, 5 + 2 * 52 + 1);
        Check.faulty(x, 1, "cards" + many(" 1", 290) + ";", 3, 5 + 2 * 52 + 1);
    }

    private static void books() {
        SpoonShort x = Check.fine(2, "take 5;hand 0 12;reach 1;feint 2;pass 9;");
        int[][] deeds = {{0, 5, NONE}, {1, 0, 12}, {2, 1, NONE}, {3, 2, NONE}, {4, 9, NONE}};
        Check.due("deeds", x.deed(0, NONE, 0), 5);
        Check.due("deeds what 1", x.deed(0, NONE, 1), -2);
        for (int k = 0; k < 5; k++) {
            for (int what = 0; what < 3; what++) {
                Check.due("deed " + k + " " + what, x.deed(0, k, what), deeds[k][what]);
            }
            Check.due("deed what 3", x.deed(0, k, 3), -2);
            Check.due("deed what -1", x.deed(0, k, -1), -2);
        }
        Check.due("deed 5", x.deed(0, 5, 0), -2);
        Check.due("deed -2", x.deed(0, -2, 0), -2);
        Check.due("book 1", x.deed(1, 0, 0), -2);
        Check.due("deed max", x.deed(0, Integer.MAX_VALUE, 0), -2);
        Check.faulty(x, 2, "take 6;", 2, 5);
        Check.faulty(x, 2, "hand 6 13;", 2, 5);
        Check.faulty(x, 2, "hand 5 13;", 2, 7);
        Check.faulty(x, 2, "reach 6;", 2, 6);
        Check.faulty(x, 2, "feint 6;", 2, 6);
        Check.faulty(x, 2, "pass 0;", 2, 5);
        Check.faulty(x, 2, "pass 10;", 2, 5);
        Check.faulty(x, 2, "hand 0;", 1, 6);
        Check.faulty(x, 2, "take 0 1;", 1, 7);
        Check.faulty(x, 2, "pass 1 1;", 1, 7);
        Check.faulty(x, 2, many("take 0;", 41), 3, 280);
        Check.faulty(x, 2, many("take 0;", 40) + "take 6;", 3, 280);
        Check.fine(2, many("take 0;", 40));
        Check.fine(2, "");
    }

    private static void hands() {
        SpoonShort x = Check.fine(3, "gone 1;hold 3 2;gone 0 12;hold 1;");
        Check.due("held", x.hand(0, 0), 3);
        Check.due("gone", x.hand(0, 1), 3);
        Check.due("held 0", x.hand(0, 10), 3);
        Check.due("held 2", x.hand(0, 12), 1);
        Check.due("held 3", x.hand(0, 13), -2);
        Check.due("gone 0", x.hand(0, 100), 1);
        Check.due("gone 2", x.hand(0, 102), 12);
        Check.due("gone 3", x.hand(0, 103), -2);
        Check.due("what 2", x.hand(0, 2), -2);
        Check.due("what 9", x.hand(0, 9), -2);
        Check.due("what -1", x.hand(0, -1), -2);
        Check.due("what 99", x.hand(0, 99), -2);
        Check.due("what max", x.hand(0, Integer.MAX_VALUE), -2);
        Check.due("hand 1", x.hand(1, 0), -2);
        Check.fine(3, "");
        Check.fine(3, "hold 0 1 2 3;gone" + many(" 1", 48) + ";");
        Check.faulty(x, 3, "hold 0 1 2 3 4;", 3, 13);
        Check.faulty(x, 3, "hold 0 1 2 3 13;", 2, 13);
        Check.faulty(x, 3, "gone 13;", 2, 5);
        Check.faulty(x, 3, "gone" + many(" 1", 49) + ";", 3, 4 + 2 * 48 + 1);
        Check.faulty(x, 3, "hold;", 1, 4);
        Check.faulty(x, 3, "hold 1;cards 1;", 1, 7);
    }

    private static void films() {
        SpoonShort x = Check.fine(4, "frame 0;frame 7 5 0;frame 99 1;");
        Check.due("frames", x.frame(0, NONE, 0), 3);
        Check.due("frames what 1", x.frame(0, NONE, 1), -2);
        int[][] frames = {{0, 0}, {7, 33}, {99, 2}};
        for (int k = 0; k < 3; k++) {
            Check.due("tenth " + k, x.frame(0, k, 0), frames[k][0]);
            Check.due("who " + k, x.frame(0, k, 1), frames[k][1]);
            Check.due("frame what 2", x.frame(0, k, 2), -2);
        }
        Check.due("frame 3", x.frame(0, 3, 0), -2);
        Check.due("frame -2", x.frame(0, -2, 0), -2);
        Check.due("film 1", x.frame(1, NONE, 0), -2);
        Check.faulty(x, 4, "frame 6 6;", 2, 8);
        Check.faulty(x, 4, "frame 0 0 0;", 2, 10);
        Check.faulty(x, 4, "frame 0 1 0 2 1;", 2, 14);
        Check.faulty(x, 4, "frame 5;frame 5;", 2, 14);
        Check.faulty(x, 4, "frame 5;frame 4 7;", 2, 14);
        Check.faulty(x, 4, "frame ", 1, 6);
        Check.faulty(x, 4, "frame 100;", 1, 6);
        StringBuilder ten = new StringBuilder();
        for (int i = 0; i < 10; i++) {
            ten.append("frame ").append(i).append(';');
        }
        Check.fine(4, ten.toString());
        Check.faulty(x, 4, ten + "frame 10;", 3, 80);
        Check.faulty(x, 4, ten + "frame 9;", 3, 80);
    }

    private static void places() {
        SpoonShort x = new SpoonShort();
        Check.due("first", Check.tell(x, 1, "cards 1;"), 0);
        Check.due("second", Check.tell(x, 1, "cards 2;"), 1);
        Check.tape(x, "cards 3");
        Check.due("third", x.text(1, NONE), -2);
        Check.due("the tape is empty", x.end(1), NONE);
        Check.due("no text is read", x.fault(0), 0);
        Check.due("heaps", x.count(1), 2);
        Check.due("in the place of one", Check.tell(x, 1, 0, "cards 4 5;"), 0);
        Check.due("heap 0", x.card(0, NONE), 2);
        Check.due("heap 1", x.card(1, 0), 2);
        Check.faulty(x, 0, "kinds", 1, 5);
        Check.due("in the place of none", Check.tell(x, 2, 0, "take 0;"), -2);
        Check.due("without FAULT", x.fault(0), 0);
        Check.due("without place", x.fault(1), NONE);
        Check.due("the tape is empty", x.end(1), NONE);
        Check.due("at 2", Check.tell(x, 1, 2, "cards 1;"), -2);
        Check.due("at -2", Check.tell(x, 1, -2, "cards 1;"), -2);
        Check.due("sort 5", Check.tell(x, 5, "cards 1;"), -2);
        Check.due("sort -1", Check.tell(x, -1, "cards 1;"), -2);
        Check.due("sort 5 at 0", Check.tell(x, 5, 0, "cards 1;"), -2);
        Check.due("the tape is empty", x.end(1), NONE);
        Check.due("a FAULT", Check.tell(x, 1, 0, "cards 13;"), NONE);
        Check.due("heap 0 as it was", x.card(0, 1), 5);
        Check.due("books", x.count(2), 0);
        for (int sort = 2; sort < 5; sort++) {
            Check.due("empty", Check.tell(x, sort, ""), 0);
            Check.due("count", x.count(sort), 1);
        }
        Check.due("tables", x.count(0), 0);
        Check.due("a table", Check.tell(x, 0, TWO), 0);
        Check.due("another", Check.tell(x, 0, TWO + "letters 7;"), 1);
        Check.due("in its place", Check.tell(x, 0, 1, TWO + "out 7;"), 1);
        Check.due("letters as at first", x.table(1, 3), 1);
        Check.due("tables", x.count(0), 2);
    }
}

/** The boundary cases of promises 36 and 37: for each sentence of the document that names one, a test that bears its words. */
public final class EdgesOfImagesTest {
    private static final int NONE = SpoonShort.NONE;
    private static final String TWO = "person 1 1 0 0;person 1 1 0 0;";

    public static void main(String[] args) {
        imagesNoneToTwo();
        noneSuch();
        ofNothing();
        tapeToo();
        fullTape();
        faultToo();
        allSorts();
        fewerThanThereAre();
        asItIsNow();
        anImageStaysAsItIs();
        eachByItself();
        textsLeaveNothing();
        Check.finish();
    }

    // "Image k (0 .. 2) ...: true; false for another k."
    private static void imagesNoneToTwo() {
        SpoonShort x = new SpoonShort();
        Check.none("image", 0, Check.from(0, 2), k -> x.image(k) ? 1 : 0);
        for (int k = 0; k < 3; k++) {
            Check.due("image " + k, x.image(k), true);
        }
        Check.none("again", 0, Check.from(0, 2), k -> x.again(k) ? 1 : 0);
        for (int k = 0; k < 3; k++) {
            Check.due("again " + k, x.again(k), true);
        }
    }

    // "false if there is none such": each by itself, and nothing changes then.
    private static void noneSuch() {
        for (int k = 0; k < 3; k++) {
            SpoonShort x = Check.fine(1, "cards 1 2;");
            Check.tape(x, "cards");
            for (int other = 0; other < 3; other++) {
                Check.due("none yet", x.again(other), false);
            }
            Check.due("as it was", x.card(0, NONE), 2);
            Check.due("the tape, too", x.end(5), 5);
            Check.due("image " + k, x.image(k), true);
            for (int other = 0; other < 3; other++) {
                Check.due("there is one alone", x.again(other), other == k);
            }
        }
        SpoonShort y = Check.fine(1, "cards 1 2;");
        Check.due("image 3", y.image(3), false);
        Check.due("it made none", y.again(3), false);
        for (int k = 0; k < 3; k++) {
            Check.due("it made none", y.again(k), false);
        }
    }

    // An image of a new object: "No TABLES, HEAPS, BOOKS, HANDS, FILMS".
    private static void ofNothing() {
        SpoonShort x = new SpoonShort();
        Check.due("image", x.image(1), true);
        String[] texts = {TWO, "cards 1;", "take 1;", "hold 1;", "frame 1;"};
        for (int sort = 0; sort < 5; sort++) {
            Check.tell(x, sort, texts[sort]);
            Check.tell(x, sort, texts[sort]);
        }
        Check.due("again", x.again(1), true);
        for (int sort = 0; sort < 5; sort++) {
            Check.due("none are there", x.count(sort), 0);
            Check.due("the next is the first", Check.tell(x, sort, texts[sort]), 0);
        }
    }

    // "(the tape, the FAULT, too)"
    private static void tapeToo() {
        SpoonShort x = new SpoonShort();
        Check.tape(x, "cards 1 2 3;");
        Check.due("image", x.image(0), true);
        Check.tape(x, "cards 4;                                 ");
        Check.due("again", x.again(0), true);
        Check.due("not longer", x.end(13), NONE);
        Check.due("as long", x.end(12), 12);
        Check.due("text", x.text(1, NONE), 0);
        Check.due("its bytes", x.card(0, 0), 1);
        Check.due("its bytes", x.card(0, 2), 3);
        Check.due("again", x.again(0), true);
        Check.due("no HEAP then", x.count(1), 0);
        Check.due("it goes on behind them", x.feed(0x20202020, 0x20202020, 0x20202020, 0x20202020, 0x20202020), 32);
        // A shorter one, an empty one.
        x.end(3);
        Check.due("image", x.image(1), true);
        x.end(0);
        Check.due("image", x.image(2), true);
        Check.due("again", x.again(0), true);
        Check.due("again", x.again(1), true);
        Check.due("a shorter one", x.end(4), NONE);
        Check.due("a shorter one", x.end(3), 3);
        Check.due("again", x.again(2), true);
        Check.due("an empty one", x.end(1), NONE);
    }

    private static void fullTape() {
        SpoonShort x = new SpoonShort();
        Check.tape(x, "cards 7;" + Check.many(" ", 584) + "cards 9;");
        Check.due("image", x.image(2), true);
        x.end(0);
        Check.due("again", x.again(2), true);
        Check.due("it is full", x.feed(0, 0, 0, 0, 0), NONE);
        Check.due("all of it", x.end(600), 600);
        Check.due("text", x.text(1, NONE), 0);
        Check.due("the last one", x.card(0, 1), 9);
    }

    private static void faultToo() {
        SpoonShort x = new SpoonShort();
        Check.due("image", x.image(0), true);
        Check.tell(x, 1, "cards 0 13;");
        Check.due("image", x.image(1), true);
        Check.tell(x, 0, TWO + "jumpy 5;");
        Check.due("image", x.image(2), true);
        int[][] want = {{0, NONE}, {2, 8}, {4, 38}};
        for (int k : new int[] {1, 0, 2, 1, 2, 0}) {
            Check.due("again " + k, x.again(k), true);
            Check.due("the FAULT of " + k, x.fault(0), want[k][0]);
            Check.due("its place of " + k, x.fault(1), want[k][1]);
        }
        Check.tell(x, 1, "cards 0;");
        Check.due("again", x.again(1), true);
        Check.due("the FAULT", x.fault(0), 2);
        Check.due("its place", x.fault(1), 8);
    }

    private static void allSorts() {
        SpoonShort x = new SpoonShort();
        Check.tell(x, 0, "kinds 5;copies 3;alike 2;letters 6;out 7;person 9 8 7 6;person 5 4 3 2;law 0 keep 4;law 1 aim 3;jumpy 1;");
        Check.tell(x, 1, "cards 1 2;");
        Check.tell(x, 2, "hand 1 2;pass 3;");
        Check.tell(x, 3, "hold 1 2;gone 3 4 5;");
        Check.tell(x, 4, "frame 1 2 3;frame 4 5;");
        Check.due("image", x.image(0), true);
        String[] others = {TWO, "cards 9 9 9;", "feint 0;", "hold 9;", "frame 9;"};
        for (int sort = 0; sort < 5; sort++) {
            Check.tell(x, sort, 0, others[sort]);
            Check.tell(x, sort, NONE, others[sort]);
        }
        Check.due("again", x.again(0), true);
        int[] table = {5, 3, 2, 6, 7, 2};
        int[][] people = {{9, 8, 7, 6, 2, 4, 0}, {5, 4, 3, 2, 1, 3, 1}};
        for (int what = 0; what < 6; what++) {
            Check.due("table(0, " + what + ")", x.table(0, what), table[what]);
        }
        for (int p = 0; p < 2; p++) {
            for (int what = 0; what < 7; what++) {
                Check.due("person(0, " + p + ", " + what + ")", x.person(0, p, what), people[p][what]);
            }
        }
        int[] asked = {x.card(0, NONE), x.card(0, 1), x.deed(0, NONE, 0), x.deed(0, 0, 2), x.deed(0, 1, 1), x.hand(0, 0), x.hand(0, 1),
            x.hand(0, 11), x.hand(0, 102), x.frame(0, NONE, 0), x.frame(0, 0, 1), x.frame(0, 1, 0), x.frame(0, 1, 1)};
        int[] want = {2, 2, 2, 2, 3, 2, 3, 2, 5, 2, 12, 4, 32};
        for (int i = 0; i < want.length; i++) {
            Check.due("as it was: " + i, asked[i], want[i]);
        }
        for (int sort = 0; sort < 5; sort++) {
            Check.due("no second one", x.count(sort), 1);
        }
    }

    // An image of one of a sort takes the second away, one of two brings it back.
    private static void fewerThanThereAre() {
        SpoonShort x = Check.fine(1, "cards 1;");
        Check.due("image of one", x.image(0), true);
        Check.tell(x, 1, "cards 2 2;");
        Check.due("image of two", x.image(1), true);
        Check.due("again", x.again(0), true);
        Check.due("one", x.count(1), 1);
        Check.due("no second", x.card(1, NONE), -2);
        Check.due("a further one is the second", Check.tell(x, 1, "cards 3 3 3;"), 1);
        Check.due("the new one", x.card(1, NONE), 3);
        Check.due("again", x.again(1), true);
        Check.due("two", x.count(1), 2);
        Check.due("the old one", x.card(1, NONE), 2);
        Check.due("again", x.again(0), true);
        Check.due("none in its place", Check.tell(x, 1, 1, "cards 4;"), -2);
    }

    // "as it is now": a later image k strikes the earlier one.
    private static void asItIsNow() {
        SpoonShort x = Check.fine(1, "cards 1;");
        Check.due("image", x.image(0), true);
        Check.tell(x, 1, 0, "cards 2 2;");
        Check.due("image anew", x.image(0), true);
        Check.tell(x, 1, 0, "cards 3 3 3;");
        Check.due("again", x.again(0), true);
        Check.due("as it was then", x.card(0, NONE), 2);
    }

    // "All that is as image k has it": what comes then changes no image.
    private static void anImageStaysAsItIs() {
        SpoonShort x = Check.fine(1, "cards 1;");
        Check.due("image", x.image(0), true);
        for (int i = 0; i < 3; i++) {
            Check.due("a HEAP", Check.tell(x, 1, 0, "cards 2 2;"), 0);
            Check.due("it is told", x.card(0, NONE), 2);
            Check.due("again", x.again(0), true);
            Check.due("as it was", x.card(0, NONE), 1);
        }
    }

    private static void eachByItself() {
        SpoonShort x = new SpoonShort();
        String[] heaps = {"cards 1;", "cards 2 2;", "cards 3 3 3;"};
        for (int k = 0; k < 3; k++) {
            Check.tell(x, 1, k == 0 ? NONE : 0, heaps[k]);
            Check.due("image " + k, x.image(k), true);
        }
        for (int k : new int[] {0, 2, 1, 0, 1, 2}) {
            Check.due("again " + k, x.again(k), true);
            Check.due("its HEAP", x.card(0, NONE), k + 1);
        }
        // Other objects have none of them.
        SpoonShort y = new SpoonShort();
        for (int k = 0; k < 3; k++) {
            Check.due("another object's", y.again(k), false);
        }
    }

    // A text is read as if there had been none ahead of it, with a FAULT or without.
    private static void textsLeaveNothing() {
        String[] longer = {"kinds 5;copies 3;alike 2;letters 6;out 7;" + Check.many("person 9 8 7 6;", 6) + "law 0 keep 4;jumpy 1;",
            "cards 9 9 9 9;", "hand 1 2;hand 1 2;hand 1 2;", "hold 9 9 9 9;gone 9 9 9 9;", "frame 1 5 4 3;frame 2 5 4 3;frame 3 5 4 3;"};
        for (int fault = 0; fault < 2; fault++) {
            SpoonShort x = new SpoonShort();
            for (int sort = 0; sort < 5; sort++) {
                int want = fault == 0 ? 0 : NONE;
                Check.due("a longer one", Check.tell(x, sort, longer[sort] + (fault == 0 ? "" : "#")), want);
            }
            int at = fault == 0 ? 0 : NONE;
            Check.due("TABLE", Check.tell(x, 0, at, TWO + "law 1 aim 2;"), 0);
            Check.due("HEAP", Check.tell(x, 1, at, "cards 3;"), 0);
            Check.due("BOOK", Check.tell(x, 2, at, "take 4;"), 0);
            Check.due("HAND", Check.tell(x, 3, at, "hold 3;gone 2;"), 0);
            Check.due("FILM", Check.tell(x, 4, at, "frame 7 0;frame 8 1;"), 0);
            int[] asked = {x.table(0, 0), x.table(0, 4), x.table(0, 5), x.person(0, 0, 4), x.person(0, 0, 5), x.person(0, 1, 6),
                x.card(0, NONE), x.card(0, 0), x.deed(0, NONE, 0), x.deed(0, 0, 1), x.deed(0, 0, 2), x.hand(0, 0), x.hand(0, 10),
                x.hand(0, 1), x.hand(0, 100), x.frame(0, NONE, 0), x.frame(0, 0, 1), x.frame(0, 1, 0), x.frame(0, 1, 1)};
            int[] want = {4, 3, 2, 0, NONE, 0, 1, 3, 1, 4, NONE, 1, 3, 1, 2, 2, 1, 8, 2};
            for (int i = 0; i < want.length; i++) {
                Check.due("of the latest texts: " + i, asked[i], want[i]);
            }
        }
    }
}

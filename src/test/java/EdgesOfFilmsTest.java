/** The boundary cases of promises 33 and 34: for each sentence of the document that names one, a test that bears its words. */
public final class EdgesOfFilmsTest {
    private static final int NONE = SpoonShort.NONE;
    private static final String ONE = "person 1 1 0 0;";

    public static void main(String[] args) {
        takenUpToTheFirstFrame();
        takenBetweenTwoFrames();
        takenInNoFrame();
        liesFromTheSecondFrameOn();
        liesOnce();
        sureIfAloneBetween();
        nobodyIsSure();
        mayWithOthers();
        shortOfSpoons();
        filmWithoutFrames();
        whoIsNotAtTheTable();
        answersOfAFilm();
        pulledAlone();
        pulledTooLate();
        pulledAtOneTenth();
        pulledInLeastTerms();
        pulledOfNone();
        Check.finish();
    }

    private static SpoonShort with(int people, String film) {
        SpoonShort x = Check.fine(0, "alike 2;" + Check.many(ONE, people));
        Check.due("film " + film, Check.tell(x, 4, film), 0);
        return x;
    }

    private static void taken(SpoonShort x, int person, int above, int upTo) {
        Check.due("TAKEN above, by " + person, x.film(0, 0, 10 + person), above);
        Check.due("TAKEN up to, by " + person, x.film(0, 0, 20 + person), upTo);
    }

    private static void pulled(SpoonShort x, int person, long n, long d) {
        Check.due("N of " + person, x.pulled(0, 0, person, false), n);
        Check.due("D of " + person, x.pulled(0, 0, person, true), d);
    }

    // "(tenth -1, if that is the first of all)"
    private static void takenUpToTheFirstFrame() {
        for (int tenth : new int[] {0, 1, 50, 99}) {
            SpoonShort x = with(2, "frame " + tenth + " 0;");
            taken(x, 0, -1, tenth);
            taken(x, 1, -2, -2);
        }
    }

    // "between the last FRAME ahead of the first one in which he has a spoon ... and that one"
    private static void takenBetweenTwoFrames() {
        SpoonShort x = with(6, "frame 0 1;frame 1 0;frame 7;frame 8 2 0;frame 98 4 3 0;frame 99 5;");
        taken(x, 0, 0, 1);
        taken(x, 1, -1, 0);
        taken(x, 2, 7, 8);
        taken(x, 3, 8, 98);
        taken(x, 4, 8, 98);
        taken(x, 5, 98, 99);
        // The tenth FRAME.
        StringBuilder film = new StringBuilder();
        for (int k = 0; k < 9; k++) {
            film.append("frame ").append(3 * k).append(';');
        }
        taken(with(2, film + "frame 30 1;"), 1, 24, 30);
    }

    // "(-2 each, if in no FRAME)"
    private static void takenInNoFrame() {
        SpoonShort x = with(3, "frame 5;frame 6 1;");
        taken(x, 0, -2, -2);
        taken(x, 1, 5, 6);
        taken(x, 2, -2, -2);
    }

    private static void lies(String film, int bits) {
        Check.due("LIES of " + film, with(3, film).film(0, 0, 0), bits);
    }

    // "FRAMES (bits) in which one who had a spoon in the FRAME ahead has none"
    private static void liesFromTheSecondFrameOn() {
        lies("frame 5;", 0);
        lies("frame 5 0 1 2;", 0);
        lies("frame 5 0;frame 6;", 2);
        lies("frame 5 0;frame 6 1;", 2);
        lies("frame 5 0;frame 6 1 0;", 0);
        lies("frame 5 0;frame 6 0;", 0);
        lies("frame 5;frame 6 0;", 0);
        lies("frame 5 0 1 2;frame 6 0 2;", 2);
        StringBuilder film = new StringBuilder();
        for (int k = 0; k < 10; k++) {
            film.append("frame ").append(k).append(k % 2 == 0 ? " 2 0;" : " 1 0;");
        }
        lies(film.toString(), 1022);
    }

    // Of one who has none for long it is the first FRAME alone: in the FRAME ahead of the others he has none.
    private static void liesOnce() {
        lies("frame 5 0;frame 6;frame 7;frame 8;", 2);
        lies("frame 5 0;frame 6;frame 7 0;frame 8;", 10);
        lies("frame 5;frame 6;frame 7 0;frame 8;", 8);
        // TAKEN is by the first FRAME in which he has one.
        taken(with(2, "frame 5 0;frame 6;frame 7 0;"), 0, -1, 5);
    }

    private static void first(SpoonShort x, int sure, int may) {
        Check.due("SURE", x.film(0, 0, 1), sure);
        Check.due("MAY", x.film(0, 0, 2), may);
    }

    // "SURE: who is FIRST for sure (nobody can be ahead, or with him)"
    private static void sureIfAloneBetween() {
        first(with(3, "frame 0 2;"), 2, 4);
        first(with(3, "frame 99 0;"), 0, 1);
        first(with(3, "frame 5 1;frame 6 1 0 2;"), 1, 2);
        first(with(3, "frame 0;frame 98;frame 99 2;"), 2, 4);
        // The one a tenth behind the other.
        first(with(2, "frame 7;frame 8 1;frame 9 0 1;"), 1, 2);
    }

    private static void nobodyIsSure() {
        first(with(3, "frame 5 0 1;"), NONE, 3);
        // At one tenth alone, with him.
        first(with(3, "frame 0 0 1;"), NONE, 3);
        first(with(3, "frame 7;frame 8 1 2;frame 9 0 1 2;"), NONE, 6);
        first(with(3, "frame 7;frame 8;"), NONE, 0);
    }

    // "MAY: who may be (bits; with others, too)"
    private static void mayWithOthers() {
        first(with(6, "frame 9 5 4 3 2 1 0;"), NONE, 63);
        first(with(6, "frame 0 5 4 3 2 1 0;"), NONE, 63);
        first(with(6, "frame 9 5 4;frame 10 5 4 3 2 1 0;"), NONE, 48);
        first(with(6, "frame 9 5;frame 10 5 4 3 2 1 0;"), 5, 32);
    }

    // "in how many FRAMES more than PEOPLE less 1 (who are there) have spoons"
    private static void shortOfSpoons() {
        String[] all = {"", " 0", " 0 1", " 0 1 2", " 0 1 2 3", " 0 1 2 3 4", " 0 1 2 3 4 5"};
        for (int people = 2; people <= 6; people++) {
            Check.due("all but one", with(people, "frame 3" + all[people - 1] + ";").film(0, 0, 3), 0);
            Check.due("all", with(people, "frame 3" + all[people] + ";").film(0, 0, 3), 1);
            String some = "frame 3" + all[people] + ";frame 4" + all[people - 1] + ";frame 5" + all[people] + ";";
            Check.due("in two of three", with(people, some).film(0, 0, 3), 2);
            if (people < 6) {
                // One who is not there has one, one who is there has none.
                Check.due("as many as all", with(people, "frame 3" + all[people - 1] + " 5;").film(0, 0, 3), 0);
            }
        }
        StringBuilder film = new StringBuilder();
        for (int k = 0; k < 10; k++) {
            film.append("frame ").append(k).append(" 1 0;");
        }
        Check.due("in all of ten", with(2, film.toString()).film(0, 0, 3), 10);
    }

    private static void filmWithoutFrames() {
        SpoonShort x = with(2, "");
        int[] want = {0, NONE, 0, 0};
        for (int what = 0; what < 4; what++) {
            Check.due("of no FRAMES: " + what, x.film(0, 0, what), want[what]);
        }
        taken(x, 0, -2, -2);
        pulled(x, 0, NONE, NONE);
    }

    // PULLED is "of PEOPLE who are there"
    private static void whoIsNotAtTheTable() {
        SpoonShort x = with(2, "frame 5 4;frame 9 4 1;");
        pulled(x, 1, 1, 1);
        pulled(x, 4, NONE, NONE);
        pulled(x, 2, NONE, NONE);
    }

    // "-2: there is none such (of any), or for another what."
    private static void answersOfAFilm() {
        SpoonShort x = with(2, "frame 5 1 0;");
        Check.none("film(0, 0, what)", -2, what -> what >= 0 && what <= 3 || what == 10 || what == 11 || what == 20 || what == 21,
            what -> x.film(0, 0, what));
        Check.none("film(at, 0, 1)", -2, Check.from(0, 0), at -> x.film(at, 0, 1));
        SpoonShort y = with(6, "frame 5 0 1 2 3 4 5;");
        Check.none("of six: film(0, 0, what)", -2, what -> what >= 0 && what <= 3 || what >= 10 && what <= 15
            || what >= 20 && what <= 25, what -> y.film(0, 0, what));
        Check.none("film(0, at, 1)", -2, Check.from(0, 0), at -> y.film(0, at, 1));
        for (int p = 0; p < 6; p++) {
            taken(y, p, -1, 5);
        }
    }

    // "how likely nobody has his ahead of him"
    private static void pulledAlone() {
        pulled(with(2, "frame 99 1;"), 1, 1, 1);
        pulled(with(2, "frame 5 1;frame 6 1 0;"), 1, 1, 1);
        pulled(with(2, "frame 5 1;frame 6 0;"), 1, 1, 1);
    }

    private static void pulledTooLate() {
        pulled(with(2, "frame 5 1;frame 6 1 0;"), 0, 0, 1);
        pulled(with(3, "frame 5 1 2;frame 99 1 0;"), 0, 0, 1);
    }

    // With him is not ahead of him.
    private static void pulledAtOneTenth() {
        SpoonShort x = with(3, "frame 0 1 2 0;");
        for (int p = 0; p < 3; p++) {
            pulled(x, p, 1, 1);
        }
        SpoonShort y = with(2, "frame 7;frame 8 0 1;");
        pulled(y, 0, 1, 1);
        pulled(y, 1, 1, 1);
    }

    // "each tenth of one's as likely, each by himself": of 0 and 1 each, three of four.
    private static void pulledInLeastTerms() {
        pulled(with(2, "frame 1 1 0;"), 0, 3, 4);
        pulled(with(2, "frame 40;frame 42 1 0;"), 1, 3, 4);
        pulled(with(2, "frame 2 1 0;"), 0, 2, 3);
        // Of 100 tenths each: 5050 of 10000.
        pulled(with(2, "frame 99 1 0;"), 1, 101, 200);
        // Of 99 tenths each: 4950 of 9801.
        pulled(with(2, "frame 0;frame 99 1 0;"), 1, 50, 99);
        // Of three: 1 and 4 of 8; of 1, 8 and 27 of 81.
        pulled(with(3, "frame 1 1 0 2;"), 1, 5, 8);
        pulled(with(3, "frame 2 1 0 2;"), 2, 14, 27);
        // Six of 100 tenths each: 1 + 32 + .. + 100 to the fifth, of 100 to the sixth.
        pulled(with(6, "frame 99 0 1 2 3 4 5;"), 0, 68683333, 400000000);
    }

    // "NONE: he has none in any FRAME, or there is none such (of any)."
    private static void pulledOfNone() {
        SpoonShort x = with(3, "frame 5 0;frame 7 2 0;");
        Check.none("pulled(0, 0, person)", NONE, p -> p == 0 || p == 2, p -> x.pulled(0, 0, p, true));
        Check.none("pulled(0, 0, person)", NONE, p -> p == 0 || p == 2, p -> x.pulled(0, 0, p, false));
        SpoonShort y = with(3, "frame 5 0;frame 7 2 0;");
        Check.none("pulled(at, ..)", NONE, Check.from(0, 0), at -> y.pulled(at, 0, 0, true));
        Check.none("pulled(0, at, ..)", NONE, Check.from(0, 0), at -> y.pulled(0, at, 0, false));
    }
}

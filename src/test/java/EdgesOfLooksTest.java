/** The boundary cases of promises 27 to 31: for each sentence of the document that names one, a test that bears its words. */
public final class EdgesOfLooksTest {
    private static final int NONE = SpoonShort.NONE;
    private static final String ONE = "person 1 1 0 0;";
    private static final String THREE = "alike 2;person 1 2 1 3;person 2 3 0 5;person 1 1 2 0;jumpy 1;jumpy 2;";

    public static void main(String[] args) {
        lastAtEachT();
        tenthsToLookAt();
        noneOrAllOfTheLasts();
        personIsNotAsked();
        bothAreOne();
        looksOfNone();
        oftenOneToNine();
        oftenOfSeveralTheLeast();
        oftenOfNone();
        costsCut();
        waysAsFigures();
        atMostFivePeople();
        restsThatThereAre();
        restsOfNone();
        evenToTheNearest();
        evenOfTheSlowest();
        evenOfNone();
        feintAtTheTenthItself();
        feintWhileOutstretched();
        feintAtTenthNone();
        whoIsNotMeant();
        lure();
        feintOfNone();
        Check.finish();
    }

    // "Each other one sees it at the least tenth above that which his EYES go into": not at T itself.
    private static void lastAtEachT() {
        for (int eyes = 1; eyes <= 9; eyes++) {
            for (int far = 0; far <= 10; far++) {
                // PERSON 0 is FIRST, and has his spoon at T and FAR; of two the greatest is LAST.
                SpoonShort x = Check.fine(0, "person 1 1 0 " + far + ";person 1 " + eyes + " 0 0;");
                int lasts = 0;
                for (int at = 0; at < 60; at++) {
                    int sees = at + 1;
                    while (sees % eyes != 0) {
                        sees++;
                    }
                    int last = sees >= at + far ? 1 : 0;
                    lasts += last;
                    Check.due("LAST at " + at, x.looks(0, 1, 0, at), last);
                }
                Check.due("LASTS", x.looks(0, 1, 0, NONE), lasts);
            }
        }
    }

    // "at tenth T, 0 .. 59"
    private static void tenthsToLookAt() {
        SpoonShort x = Check.fine(0, THREE);
        Check.none("looks(.., at)", NONE, Check.from(-1, 59), at -> x.looks(0, 1, 0, at));
        for (int at : new int[] {0, 1, 58, 59}) {
            Check.due("looks at " + at, x.looks(0, 1, 0, at), 1);
        }
    }

    // "at how many of these T he is LAST"
    private static void noneOrAllOfTheLasts() {
        SpoonShort x = Check.fine(0, ONE + ONE);
        Check.due("at all", x.looks(0, 1, 0, NONE), 60);
        Check.due("at all", x.looks(0, 0, 1, NONE), 60);
        x = Check.fine(0, "person 1 1 0 20;" + ONE);
        Check.due("at none", x.looks(0, 1, 0, NONE), 0);
        // As FIRST, too, PERSON 0 is LAST; of several the greatest.
        Check.due("FIRST himself", x.looks(0, 1, 0, 30), 0);
        x = Check.fine(0, "person 1 1 0 1;" + ONE);
        Check.due("of two the greatest", x.looks(0, 1, 0, NONE), 60);
        x = Check.fine(0, ONE + "person 1 1 0 1;");
        Check.due("of two the greatest: FIRST", x.looks(0, 0, 1, NONE), 0);
    }

    // "(at 0 .. 59; person is not asked)"
    private static void personIsNotAsked() {
        SpoonShort x = Check.fine(0, THREE);
        Check.none("looks of any", 1, person -> false, person -> x.looks(0, person, 0, 7));
        SpoonShort y = Check.fine(0, THREE);
        Check.none("looks of any, at 0", 0, person -> false, person -> y.looks(0, person, 1, 0));
    }

    // "NONE: both are one (at NONE)"
    private static void bothAreOne() {
        SpoonShort x = Check.fine(0, THREE);
        for (int p = 0; p < 3; p++) {
            Check.due("both are one", x.looks(0, p, p, NONE), NONE);
            Check.due("both are one, at a T", x.looks(0, p, p, 0) != NONE, true);
            for (int q = 0; q < 3; q++) {
                Check.due("two", x.looks(0, q, p, NONE) != NONE, p != q);
            }
        }
    }

    // "or there is none such (of any)"
    private static void looksOfNone() {
        SpoonShort x = Check.fine(0, THREE);
        Check.none("looks(at, ..)", NONE, Check.from(0, 0), at -> x.looks(at, 1, 0, NONE));
        Check.none("looks(at, .., 0)", NONE, Check.from(0, 0), at -> x.looks(at, 1, 0, 0));
        SpoonShort y = Check.fine(0, THREE);
        Check.none("looks(0, person, 1, NONE)", NONE, p -> p == 0 || p == 2, p -> y.looks(0, p, 1, NONE));
        Check.none("looks(0, 1, first, NONE)", NONE, p -> p == 0 || p == 2, p -> y.looks(0, 1, p, NONE));
        SpoonShort z = Check.fine(0, THREE);
        Check.none("looks(0, 1, first, 0)", NONE, Check.from(0, 2), p -> z.looks(0, 1, p, 0));
    }

    // "EYES, 1 .. 9, by which his LASTS, ..., and 60 by EYES (cut) together are least"
    private static void oftenOneToNine() {
        // FIRST has his at T and FAR, who looks each FAR less 1 tenths is ahead of him always.
        for (int far = 3; far <= 10; far++) {
            SpoonShort x = Check.fine(0, "person 1 1 0 " + far + ";" + ONE);
            int[] want = {0, 0, 0, 2, 3, 4, 5, 6, 7, 8, 9};
            Check.due("FAR " + far, x.often(0, 1, 0), want[far]);
        }
        SpoonShort x = Check.fine(0, "person 1 1 0 20;" + ONE);
        Check.due("LASTS 0 by all", x.often(0, 1, 0), 9);
        x = Check.fine(0, ONE + "person 1 1 9 20;");
        Check.due("LASTS 60 by all", x.often(0, 1, 0), 9);
        Check.due("what he has told does not count", Check.fine(0, ONE + "person 1 4 9 20;").often(0, 1, 0), 9);
    }

    // "of several the least": by FAR 2 all of 1 .. 9 have 60 together.
    private static void oftenOfSeveralTheLeast() {
        SpoonShort x = Check.fine(0, "person 1 1 0 2;" + ONE);
        Check.due("of nine the least", x.often(0, 1, 0), 1);
        for (int eyes = 1; eyes <= 9; eyes++) {
            SpoonShort y = Check.fine(0, "person 1 1 0 2;person 1 " + eyes + " 0 0;");
            Check.due("together", y.looks(0, 1, 0, NONE) + 60 / eyes, 60);
            Check.due("of nine the least", y.often(0, 1, 0), 1);
            Check.due("the TABLE is as it was", y.person(0, 1, 1), eyes);
        }
    }

    // "NONE: both are one, or there is none such (of any)."
    private static void oftenOfNone() {
        SpoonShort x = Check.fine(0, THREE);
        Check.none("often(0, person, 1)", NONE, p -> p == 0 || p == 2, p -> x.often(0, p, 1));
        Check.none("often(0, 1, first)", NONE, p -> p == 0 || p == 2, p -> x.often(0, 1, p));
        SpoonShort y = Check.fine(0, THREE);
        Check.none("often(at, 1, 0)", NONE, Check.from(0, 0), at -> y.often(at, 1, 0));
        for (int p = 0; p < 3; p++) {
            Check.due("both are one", y.often(0, p, p), NONE);
        }
    }

    // "20 * PEOPLE by EYES, cut"
    private static void costsCut() {
        // Who is not FIRST is LAST: of two the other one, of more the greatest.
        SpoonShort x = Check.fine(0, ONE + ONE);
        int[] of = {40, 20, 13};
        for (int mine = 0; mine < 3; mine++) {
            for (int other = 0; other < 3; other++) {
                Check.due("COST of 0", x.rests(0, 0, 3 * mine + other), 60 + of[mine]);
                Check.due("COST of 1", x.rests(0, 1, 3 * other + mine), 60 + of[mine]);
            }
        }
        String[] tables = {"", "", ONE + ONE, ONE + ONE + ONE, ONE + ONE + ONE + ONE, ONE + ONE + ONE + ONE + ONE};
        for (int people = 2; people <= 5; people++) {
            SpoonShort y = Check.fine(0, "alike 2;person 1 1 9 20;" + tables[people].substring(ONE.length()));
            int[] byEyes = {20 * people, 10 * people, 20 * people / 3};
            int figure = (int) Math.round(Math.pow(3, people - 1));
            for (int eyes = 0; eyes < 3; eyes++) {
                Check.due("LAST always", y.rests(0, 0, eyes * figure), 60 * (people - 1) + byEyes[eyes]);
                Check.due("LAST never", y.rests(0, people - 1, eyes), byEyes[eyes]);
            }
        }
    }

    // "ways (as a number of figures EYES less 1, base 3, PERSON 0's the highest)"
    private static void waysAsFigures() {
        SpoonShort x = Check.fine(0, "person 1 9 0 0;person 1 7 0 0;person 1 5 9 20;");
        int[] byEyes = {60, 30, 20};
        for (int way = 0; way < 27; way++) {
            int[] eyes = {way / 9, way / 3 % 3, way % 3};
            for (int p = 0; p < 3; p++) {
                Check.due("COST of " + p + " by way " + way, x.rests(0, p, way), byEyes[eyes[p]] + (p == 2 ? 120 : 0));
            }
        }
        Check.due("how many REST", x.rests(0, NONE, NONE), 1);
        Check.due("the last way", x.rests(0, NONE, 0), 26);
    }

    // "NONE: there are more than 5 PEOPLE"
    private static void atMostFivePeople() {
        for (int people = 2; people <= 6; people++) {
            SpoonShort x = Check.fine(0, "alike 2;" + Check.many(ONE, people));
            int ways = (int) Math.round(Math.pow(3, people));
            Check.due("how many REST of " + people, x.rests(0, NONE, NONE) != NONE, people <= 5);
            Check.due("the last way", x.rests(0, NONE, 0), people == 2 ? 8 : NONE);
            Check.due("COST by the first way", x.rests(0, 0, 0) != NONE, people <= 5);
            Check.due("COST by the last way", x.rests(0, people - 1, ways - 1) != NONE, people <= 5);
            Check.due("COST by none behind it", x.rests(0, people - 1, ways), NONE);
        }
    }

    // "how many REST (k NONE), the k-th"
    private static void restsThatThereAre() {
        SpoonShort x = Check.fine(0, ONE + ONE);
        Check.due("how many REST", x.rests(0, NONE, NONE), 1);
        Check.none("rests(0, NONE, k)", NONE, Check.from(-1, 0), k -> x.rests(0, NONE, k));
        Check.due("the one", x.rests(0, NONE, 0), 8);
        // None does.
        SpoonShort y = Check.fine(0, "alike 2;person 1 1 9 13;person 2 1 8 13;person 1 1 5 1;");
        Check.due("how many REST", y.rests(0, NONE, NONE), 0);
        Check.none("rests of none", NONE, k -> k == NONE, k -> y.rests(0, NONE, k));
        // Four do, the last way of all among them.
        SpoonShort z = Check.fine(0, "alike 2;person 1 1 3 19;person 1 1 9 14;person 1 1 7 13;");
        Check.due("how many REST", z.rests(0, NONE, NONE), 4);
        int[] want = {7, 16, 17, 26};
        for (int k = 0; k < 4; k++) {
            Check.due("REST " + k, z.rests(0, NONE, k), want[k]);
        }
        Check.none("rests of four", NONE, Check.from(-1, 3), k -> z.rests(0, NONE, k));
    }

    // "NONE: ... or there is none such (of any)."
    private static void restsOfNone() {
        SpoonShort x = Check.fine(0, ONE + ONE);
        Check.none("rests(0, 1, k)", NONE, Check.from(0, 8), k -> x.rests(0, 1, k));
        Check.none("rests(0, person, 8)", NONE, Check.from(0, 1), p -> x.rests(0, p, 8));
        SpoonShort y = Check.fine(0, ONE + ONE);
        Check.none("rests(at, NONE, NONE)", NONE, Check.from(0, 0), at -> y.rests(at, NONE, NONE));
        Check.none("rests(at, 0, 0)", NONE, Check.from(0, 0), at -> y.rests(at, 0, 0));
        SpoonShort z = Check.fine(0, "alike 2;" + Check.many(ONE, 5));
        Check.none("rests(0, person, 0)", NONE, Check.from(0, 4), p -> z.rests(0, p, 0));
        for (int k : new int[] {-2, -1, 243, 244, 729, Integer.MAX_VALUE, Integer.MIN_VALUE}) {
            Check.due("way " + k, z.rests(0, 0, k), NONE);
        }
        Check.due("way 242", z.rests(0, 0, 242) != NONE, true);
    }

    // "by 60, to the nearest (of two the lesser)": of EYES 1 .. 9 the WAITS are 60, 90, 120, 150, 180, 210, 246, 278, 309.
    private static void evenToTheNearest() {
        int[] waits = {0, 60, 90, 120, 150, 180, 210, 246, 278, 309};
        for (int most = 1; most <= 9; most++) {
            for (int eyes = 1; eyes <= most; eyes++) {
                SpoonShort x = Check.fine(0, "alike 2;person 1 " + eyes + " 0 0;person 1 " + most + " 0 0;");
                int off = waits[most] - waits[eyes];
                int want = off % 60 > 30 ? off / 60 + 1 : off / 60;
                Check.due("EYES " + eyes + " by " + most, x.even(0, 0), want);
                Check.due("the most", x.even(0, 1), 0);
            }
        }
        Check.due("by half a tenth: the lesser", Check.fine(0, "person 1 1 0 0;person 1 2 0 0;").even(0, 0), 0);
        Check.due("by a tenth and a half: the lesser", Check.fine(0, "person 1 1 0 0;person 1 4 0 0;").even(0, 0), 1);
        Check.due("31 of 60", Check.fine(0, "person 1 8 0 0;person 1 9 0 0;").even(0, 0), 1);
    }

    // "than the most of anybody"
    private static void evenOfTheSlowest() {
        SpoonShort x = Check.fine(0, "alike 2;" + ONE + "person 1 9 9 20;person 1 1 9 20;person 1 9 0 20;person 1 9 9 0;" + ONE);
        int[] want = {33, 0, 4, 9, 20, 33};
        for (int p = 0; p < 6; p++) {
            Check.due("FARTHER for " + p, x.even(0, p), want[p]);
        }
        SpoonShort y = Check.fine(0, "alike 2;" + Check.many("person 1 7 3 3;", 6));
        for (int p = 0; p < 6; p++) {
            Check.due("all are alike", y.even(0, p), 0);
        }
    }

    // "NONE: there is none such (of either)."
    private static void evenOfNone() {
        SpoonShort x = Check.fine(0, THREE);
        Check.none("even(0, person)", NONE, Check.from(0, 2), p -> x.even(0, p));
        Check.none("even(at, 0)", NONE, Check.from(0, 0), at -> x.even(at, 0));
    }

    private static SpoonShort jumpy(int out, int eyes) {
        return Check.fine(0, "out " + out + ";" + ONE + "person 1 " + eyes + " 0 0;jumpy 1;");
    }

    // "his hand is out at tenths T to T and OUTSTRETCHED": with OUTSTRETCHED 0 at T alone.
    private static void feintAtTheTenthItself() {
        for (int eyes = 1; eyes <= 9; eyes++) {
            SpoonShort x = jumpy(0, eyes);
            for (int at = 0; at < 60; at++) {
                Check.due("EYES " + eyes + " at " + at, x.feint(0, 0, at), at % eyes == 0 ? 2 : 0);
            }
        }
    }

    private static void feintWhileOutstretched() {
        for (int out = 1; out <= 9; out++) {
            SpoonShort x = jumpy(out, 9);
            for (int at = 0; at < 60; at++) {
                boolean looks = at % 9 == 0 || at % 9 + out >= 9;
                Check.due("out " + out + " at " + at, x.feint(0, 0, at), looks ? 2 : 0);
            }
        }
        // At T 59 the hand is out up to tenth 68.
        Check.due("63 is the next one", jumpy(4, 9).feint(0, 0, 59), 2);
        Check.due("62 is not", jumpy(3, 9).feint(0, 0, 59), 0);
    }

    // All EYES go into tenth 0.
    private static void feintAtTenthNone() {
        for (int eyes = 1; eyes <= 9; eyes++) {
            Check.due("EYES " + eyes, jumpy(0, eyes).feint(0, 0, 0), 2);
            Check.due("EYES " + eyes + " at 1", jumpy(0, eyes).feint(0, 0, 1), eyes == 1 ? 2 : 0);
        }
    }

    // "who (JUMPY, another one)"
    private static void whoIsNotMeant() {
        String six = "alike 2;" + Check.many(ONE, 6);
        SpoonShort x = Check.fine(0, six);
        SpoonShort y = Check.fine(0, six + "jumpy 0;jumpy 1;jumpy 2;jumpy 3;jumpy 4;jumpy 5;");
        SpoonShort z = Check.fine(0, six + "jumpy 3;");
        for (int p = 0; p < 6; p++) {
            Check.due("nobody is JUMPY", x.feint(0, p, 7), 0);
            Check.due("all others", y.feint(0, p, 7), 63 & ~(1 << p));
            Check.due("one", z.feint(0, p, 7), p == 3 ? 0 : 8);
        }
    }

    // "LURE: the T, 0 .. 59, by which most TOUCH; of several the least."
    private static void lure() {
        for (int eyes = 1; eyes <= 9; eyes++) {
            SpoonShort x = jumpy(eyes % 3, eyes);
            Check.due("most at T 0", x.feint(0, 0, NONE), 0);
            Check.due("nobody TOUCHES by it: the least", x.feint(0, 1, NONE), 0);
        }
    }

    // "NONE: there is none such (of any)."
    private static void feintOfNone() {
        SpoonShort x = Check.fine(0, THREE);
        Check.none("feint(0, 1, at)", NONE, Check.from(-1, 59), at -> x.feint(0, 1, at));
        Check.none("feint(0, person, 1)", NONE, Check.from(0, 2), p -> x.feint(0, p, 1));
        SpoonShort y = Check.fine(0, THREE);
        Check.none("feint(0, person, NONE)", NONE, Check.from(0, 2), p -> y.feint(0, p, NONE));
        Check.none("feint(at, 0, 0)", NONE, Check.from(0, 0), at -> y.feint(at, 0, 0));
    }
}

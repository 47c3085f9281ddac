import java.util.function.ToLongFunction;

/** The boundary cases of promises 21 to 26: for each sentence of the document that names one, a test that bears its words. */
public final class EdgesOfOddsTest {
    private static final int NONE = SpoonShort.NONE;
    private static final String TWO = "person 1 1 0 0;person 1 1 0 0;";

    public static void main(String[] args) {
        justAlikeCards();
        handsKindsAreThere();
        toldOftenerThanCopies();
        whatDoesNotFit();
        answersOfTheUnseen();
        noneUnseen();
        starved();
        withinNoneToSix();
        withinAsManyAsAreUnseen();
        withinOfFewKinds();
        whoHasThemStops();
        withinOfNone();
        keptOneToSix();
        keptOfSeveralTheLeast();
        keptSuchUnseen();
        keptByOneWhoHasThem();
        keptOfNone();
        aloneNoneToSix();
        aloneKinds();
        aloneWithThatKindAlone();
        soonestAtOnce();
        soonestByTheLastCard();
        soonestNever();
        soonestKindsThatAreNotThere();
        soonestOfNone();
        keepsNoneToFour();
        keepsWithAsManyAsAlike();
        keepsOfNone();
        Check.finish();
    }

    private static SpoonShort with(String table, String hand) {
        SpoonShort x = Check.fine(0, table + TWO);
        Check.due("hand " + hand, Check.tell(x, 3, hand), 0);
        return x;
    }

    private static void fraction(String name, long n, long d, ToLongFunction<Boolean> of) {
        Check.due("N of " + name, of.applyAsLong(false), n);
        Check.due("D of " + name, of.applyAsLong(true), d);
    }

    private static void neither(String name, ToLongFunction<Boolean> of) {
        Check.due("N of " + name, of.applyAsLong(false), NONE);
        Check.due("D of " + name, of.applyAsLong(true), NONE);
    }

    private static void within(SpoonShort x, int n, long wantN, long wantD) {
        fraction("within " + n, wantN, wantD, under -> x.within(0, 0, n, under));
    }

    // "it FITS, if it has just ALIKE cards that one HOLDS"
    private static void justAlikeCards() {
        String[] holds = {"", "hold 0;", "hold 0 1;", "hold 0 1 2;", "hold 0 1 2 3;"};
        for (int alike = 2; alike <= 4; alike++) {
            for (int held = 0; held <= 4; held++) {
                SpoonShort x = with("alike " + alike + ";", holds[held] + "gone 1;");
                Check.due(held + " of " + alike, x.unseen(0, 0, 0), held == alike ? 1 : 0);
                Check.due("UNSEEN", x.unseen(0, 0, 1), held == alike ? 16 - alike - 1 : NONE);
            }
        }
    }

    // "all its KINDS are there"
    private static void handsKindsAreThere() {
        for (int kinds = 3; kinds <= 12; kinds++) {
            String table = "kinds " + kinds + ";alike 2;";
            int last = kinds - 1;
            Check.due("holds the greatest", with(table, "hold 0 " + last + ";").unseen(0, 0, 0), 1);
            Check.due("the greatest is GONE", with(table, "hold 0 1;gone " + last + ";").unseen(0, 0, 0), 1);
            Check.due("holds one above", with(table, "hold 0 " + kinds + ";").unseen(0, 0, 0), 0);
            Check.due("one above is GONE", with(table, "hold 0 1;gone " + kinds + ";").unseen(0, 0, 0), 0);
            Check.due("one above is GONE first", with(table, "gone " + kinds + " 0;hold 0 1;").unseen(0, 0, 0), 0);
        }
    }

    // "none is told oftener than COPIES": of those he HOLDS and those GONE together.
    private static void toldOftenerThanCopies() {
        for (int copies = 1; copies <= 4; copies++) {
            String table = "kinds 13;alike 2;copies " + copies + ";";
            for (int held = 1; held <= Math.min(2, copies); held++) {
                String hand = held == 1 ? "hold 12 0;" : "hold 12 12;";
                int left = copies - held;
                Check.due("as often as COPIES", with(table, hand + gone(" 12", left)).unseen(0, 0, 0), 1);
                Check.due("once more", with(table, hand + gone(" 12", left + 1)).unseen(0, 0, 0), 0);
                Check.due("once more, and told first", with(table, gone(" 12", left + 1) + hand).unseen(0, 0, 0), 0);
            }
            Check.due("GONE alone", with(table, "hold 0 1;" + gone(" 5", copies)).unseen(0, 0, 0), 1);
            Check.due("GONE alone, once more", with(table, "hold 0 1;" + gone(" 5", copies + 1)).unseen(0, 0, 0), 0);
        }
        Check.due("HOLDS alone", with("kinds 13;alike 2;copies 1;", "hold 5 5;").unseen(0, 0, 0), 0);
    }

    private static String gone(String card, int times) {
        return times == 0 ? "" : "gone" + Check.many(card, times) + ";";
    }

    // "NONE: ... it does not FIT (but 0)"
    private static void whatDoesNotFit() {
        String[] hands = {"", "hold 0;", "hold 0 1 2;", "hold 0 4;", "hold 0 1;gone 4;", "hold 0 0;gone 0 0 0;"};
        for (String hand : hands) {
            SpoonShort x = with("alike 2;", hand);
            Check.due("an empty HEAP", Check.tell(x, 1, ""), 0);
            Check.none("what of " + hand, NONE, what -> what == 0, what -> x.unseen(0, 0, what));
            Check.due("it does not FIT", x.unseen(0, 0, 0), 0);
            neither("within of " + hand, under -> x.within(0, 0, 1, under));
            Check.due("kept of " + hand, x.kept(0, 0, 1, 1), NONE);
            neither("alone of " + hand, under -> x.alone(0, 0, 1, 1, under));
            neither("soonest of " + hand, under -> x.soonest(0, 0, 0, under));
            neither("keeps of " + hand, under -> x.keeps(0, 0, 1, 1, under));
        }
    }

    // "10 + k: UNSEEN ones of KIND k. NONE: there is none such (of either), ... or for another what."
    private static void answersOfTheUnseen() {
        for (int kinds = 2; kinds <= 13; kinds++) {
            int last = 10 + kinds - 1;
            SpoonShort x = with("kinds " + kinds + ";alike 2;", "hold 0 1;gone 1;");
            Check.none("what of " + kinds, NONE, what -> what >= 0 && what <= 2 || what >= 10 && what <= last, what -> x.unseen(0, 0, what));
            Check.due("the greatest KIND", x.unseen(0, 0, last), kinds == 2 ? 2 : 4);
            Check.due("all UNSEEN", x.unseen(0, 0, 1), 4 * kinds - 3);
        }
        SpoonShort y = with("alike 2;", "hold 0 1;");
        Check.none("unseen(at, 0, 0)", NONE, Check.from(0, 0), at -> y.unseen(at, 0, 0));
        Check.none("unseen(0, at, 0)", NONE, Check.from(0, 0), at -> y.unseen(0, at, 0));
    }

    // The whole PACK is told: none are UNSEEN.
    private static void noneUnseen() {
        SpoonShort x = with("kinds 2;copies 3;alike 2;", "hold 0 1;gone 0 0 1 1;");
        Check.due("it FITS", x.unseen(0, 0, 0), 1);
        Check.due("none are UNSEEN", x.unseen(0, 0, 1), 0);
        Check.due("both are STARVED", x.unseen(0, 0, 2), 3);
        Check.due("none of 0", x.unseen(0, 0, 10), 0);
        within(x, 0, 0, 1);
        neither("within 1", under -> x.within(0, 0, 1, under));
        Check.due("kept", x.kept(0, 0, 1, 0), NONE);
        fraction("alone 0", 0, 1, under -> x.alone(0, 0, 1, 0, under));
        neither("alone 1", under -> x.alone(0, 0, 1, 1, under));
        neither("keeps", under -> x.keeps(0, 0, 1, 0, under));
        SpoonShort y = with("kinds 2;copies 3;alike 2;", "hold 0 0;gone 0 1 1 1;");
        Check.due("1 is STARVED, 0 is not: he has them", y.unseen(0, 0, 2), 2);
        within(y, 0, 1, 1);
        fraction("alone 0", 1, 1, under -> y.alone(0, 0, 0, 0, under));
        SpoonShort z = with("kinds 13;", "hold 0 0 0 0;gone 1 1 1 1 2 2 2 2 3 3 3 3 4 4 4 4 5 5 5 5 6 6 6 6 7 7 7 7 8 8 8 8 9 9 9 9"
            + " 10 10 10 10 11 11 11 11 12 12 12 12;");
        Check.due("none of 52 are UNSEEN", z.unseen(0, 0, 1), 0);
        Check.due("all but one are STARVED", z.unseen(0, 0, 2), 8190);
    }

    // "STARVED: KINDS (bits) of which he can't have ALIKE ones any more."
    private static void starved() {
        for (int alike = 2; alike <= 4; alike++) {
            for (int copies = 2; copies <= 4; copies++) {
                for (int past = 0; past < copies; past++) {
                    String hand = "hold 12" + Check.many(" 0", Math.min(alike - 1, copies)) + ";";
                    if (Math.min(alike - 1, copies) < alike - 1) {
                        continue;
                    }
                    SpoonShort x = with("kinds 13;copies " + copies + ";alike " + alike + ";", hand + gone(" 12", past));
                    int others = copies < alike ? 4095 : 0;
                    int bits = others + (copies - past < alike ? 4096 : 0);
                    Check.due(past + " of " + copies + " GONE, " + alike + " ALIKE", x.unseen(0, 0, 2), bits);
                }
            }
        }
        Check.due("all of one COPY", with("kinds 5;copies 1;alike 2;", "hold 0 1;").unseen(0, 0, 2), 31);
    }

    /** WITHIN 0 .. 6, as N and D each; those that are not there NONE. Worked out by all orders of all cards. */
    private static void withinAll(String table, String hand, long... want) {
        SpoonShort x = with(table, hand);
        for (int n = 0; n <= 6; n++) {
            int at = 2 * n;
            fraction("within " + n + " of " + table + hand, want[at], want[at + 1], under -> x.within(0, 0, (at + 1) / 2, under));
        }
        Check.none("within n", NONE, Check.from(0, 6), n -> x.within(0, 0, n, false));
    }

    // "WITHIN n cards, 0 .. 6"; "another n".
    private static void withinNoneToSix() {
        withinAll("kinds 3;", "hold 0 1 2 2;", 0, 1, 0, 1, 1, 28, 1, 7, 41, 140, 13, 28, 9, 14);
        withinAll("kinds 3;alike 3;", "hold 0 1 2;gone 0;", 0, 1, 0, 1, 1, 4, 27, 56, 191, 280, 47, 56, 53, 56);
        withinAll("", "hold 0 1 2 3;", 0, 1, 0, 1, 0, 1, 1, 55, 1, 15, 19, 132, 75, 308);
        withinAll("", "hold 3 3 3 0;gone 1;", 0, 1, 1, 11, 2, 11, 3, 11, 4, 11, 5, 11, 6, 11);
        withinAll("", "hold 3 3 3 0;gone 3;", 0, 1, 0, 1, 0, 1, 1, 165, 1, 33, 1, 11, 47, 231);
        withinAll("alike 3;", "hold 0 1 2;", 0, 1, 0, 1, 3, 26, 75, 286, 291, 715, 7, 13, 17, 26);
        withinAll("alike 2;", "hold 2 3;", 0, 1, 3, 7, 9, 13, 11, 13, 133, 143, 139, 143, 425, 429);
        withinAll("", "hold 0 0 3 3;gone 1 1 2 2;", 0, 1, 0, 1, 1, 14, 4, 21, 71, 210, 1, 2, 2, 3);
        withinAll("kinds 3;", "hold 1 1 2 2;gone 1 2;", 0, 1, 0, 1, 0, 1, 0, 1, 1, 15, 1, 3, 1, 1);
        withinAll("kinds 2;alike 2;", "hold 0 1;", 0, 1, 1, 1, 1, 1, 1, 1, 1, 1, 1, 1, 1, 1);
    }

    // "fewer UNSEEN ones than n"
    private static void withinAsManyAsAreUnseen() {
        // NONE is -1, of N and D.
        withinAll("kinds 3;alike 3;copies 3;", "hold 0 1 2;gone 0 1 2;", 0, 1, 0, 1, 0, 1, 0, 1, NONE, NONE, NONE, NONE, NONE, NONE);
        withinAll("kinds 2;alike 3;", "hold 0 1 1;", 0, 1, 2, 5, 7, 10, 9, 10, 1, 1, 1, 1, NONE, NONE);
        withinAll("kinds 3;copies 2;alike 2;", "hold 0 1;gone 2;", 0, 1, 2, 3, 1, 1, 1, 1, NONE, NONE, NONE, NONE, NONE, NONE);
        withinAll("copies 2;alike 2;", "hold 0 1;gone 0 1 2;", 0, 1, 0, 1, 1, 3, 1, 1, NONE, NONE, NONE, NONE, NONE, NONE);
        withinAll("copies 2;alike 2;", "hold 0 1;gone 0 1 2 2 3;", 0, 1, 0, 1, NONE, NONE, NONE, NONE, NONE, NONE, NONE, NONE, NONE, NONE);
    }

    // "(of KINDS 2 .. 4 alone)"; "NONE: more than 4 KINDS".
    private static void withinOfFewKinds() {
        for (int kinds = 2; kinds <= 13; kinds++) {
            SpoonShort x = with("alike 2;kinds " + kinds + ";", "hold 0 1;");
            for (int n = 0; n <= 6; n++) {
                Check.due("within " + n + " of " + kinds, x.within(0, 0, n, true) != NONE, kinds <= 4);
            }
            for (int n = 1; n <= 6; n++) {
                Check.due("kept " + n + " of " + kinds, x.kept(0, 0, n, 1) != NONE, kinds <= 4);
            }
        }
        Check.due("five, though he has them", with("alike 2;kinds 5;", "hold 1 1;").within(0, 0, 0, false), NONE);
    }

    // "(who has them stops)"
    private static void whoHasThemStops() {
        String[] holds = {"hold 3 3;", "hold 0 0;"};
        for (String hold : holds) {
            SpoonShort x = with("alike 2;", hold + "gone 1 1 1 2 2 2 2;");
            for (int n = 0; n <= 6; n++) {
                within(x, n, 1, 1);
            }
            neither("within 8", under -> x.within(0, 0, 8, under));
        }
        SpoonShort y = with("", "hold 2 2 2 2;");
        within(y, 0, 1, 1);
        within(y, 6, 1, 1);
        // ALIKE less 1 are not them.
        within(with("", "hold 2 2 2 1;"), 0, 0, 1);
    }

    // "it does not FIT, or there is none such (of either)"
    private static void withinOfNone() {
        SpoonShort x = with("alike 2;", "hold 0 1;");
        Check.none("within(at, ..)", NONE, Check.from(0, 0), at -> x.within(at, 0, 1, true));
        Check.none("within(0, at, ..)", NONE, Check.from(0, 0), at -> x.within(0, at, 1, false));
    }

    // "KEPT, n 1 .. 6"
    private static void keptOneToSix() {
        SpoonShort x = with("alike 3;", "hold 1 1 3;");
        Check.none("kept(.., n, 0)", NONE, Check.from(1, 6), n -> x.kept(0, 0, n, 0));
        for (int n = 1; n <= 6; n++) {
            // With one card, which is none that he wants, it is the same: the least. With more he keeps the pair.
            Check.due("kept " + n + " of 0 1 1 3", x.kept(0, 0, n, 0), 0);
            Check.due("kept " + n + " of 1 1 2 3", x.kept(0, 0, n, 2), n == 1 ? 1 : 2);
            Check.due("kept " + n + " of 1 1 1 3", x.kept(0, 0, n, 1), 3);
        }
    }

    // "so that WITHIN n (that card counts) is most likely; of several the least"
    private static void keptOfSeveralTheLeast() {
        // No card behind that one: whatever he hands on, he has none of them then.
        for (int kind = 0; kind < 4; kind++) {
            SpoonShort x = with("alike 3;", "hold 1 2 3;");
            Check.due("that card alone", x.kept(0, 0, 1, kind), kind == 0 ? 0 : 1);
        }
        // One more card: of 0 1 1 3 3 he hands on 0; of two pairs with as many UNSEEN the least.
        Check.due("two pairs", with("", "hold 1 1 3 3;").kept(0, 0, 3, 0), 0);
        Check.due("two pairs of four", with("alike 3;", "hold 1 1 3;").kept(0, 0, 2, 3), 1);
        Check.due("two pairs, one of which starves", with("alike 3;", "hold 1 1 3;gone 3 3;").kept(0, 0, 2, 3), 3);
        Check.due("two pairs, the other starves", with("alike 3;", "hold 1 1 3;gone 1 1;").kept(0, 0, 2, 3), 1);
        Check.due("he has them by it", with("alike 3;", "hold 3 3 0;").kept(0, 0, 6, 3), 0);
        Check.due("he has them by it", with("alike 3;", "hold 0 0 3;").kept(0, 0, 6, 0), 3);
        Check.due("he has them by it", with("alike 4;", "hold 0 0 0 3;").kept(0, 0, 1, 0), 3);
    }

    // "there is none such UNSEEN"
    private static void keptSuchUnseen() {
        SpoonShort x = with("alike 3;", "hold 0 1 1;gone 2 2 2 3 3 3 3;");
        Check.none("kept(.., 1, kind)", NONE, Check.from(0, 2), kind -> x.kept(0, 0, 1, kind));
        Check.due("the one that is UNSEEN", x.kept(0, 0, 1, 2), 0);
        Check.due("none is", x.kept(0, 0, 1, 3), NONE);
        SpoonShort y = with("kinds 3;alike 2;", "hold 0 1;");
        Check.none("no such KIND", NONE, Check.from(0, 2), kind -> y.kept(0, 0, 2, kind));
        // "or as within()": fewer UNSEEN ones than n.
        SpoonShort z = with("kinds 3;copies 2;alike 2;", "hold 0 1;gone 0 1;");
        Check.due("two are UNSEEN", z.kept(0, 0, 2, 2), 0);
        Check.due("three are not", z.kept(0, 0, 3, 2), NONE);
    }

    // "he has ALIKE ones"
    private static void keptByOneWhoHasThem() {
        for (int kind = 0; kind < 4; kind++) {
            for (int n = 1; n <= 6; n++) {
                Check.due("he has them", with("alike 2;", "hold 1 1;").kept(0, 0, n, kind), NONE);
                Check.due("he has them", with("", "hold 3 3 3 3;").kept(0, 0, n, kind), NONE);
            }
        }
        Check.due("all but one", with("", "hold 1 1 1 3;").kept(0, 0, 1, 1), 3);
    }

    private static void keptOfNone() {
        SpoonShort x = with("alike 2;", "hold 0 1;");
        Check.none("kept(at, ..)", NONE, Check.from(0, 0), at -> x.kept(at, 0, 1, 2));
        Check.none("kept(0, at, ..)", NONE, Check.from(0, 0), at -> x.kept(0, at, 1, 2));
    }

    // "ONE KIND alone WITHIN n cards, 0 .. 6"; "fewer UNSEEN ones than n, another n".
    private static void aloneNoneToSix() {
        long[][] want = {{0, 1}, {1, 48}, {1, 24}, {1, 16}, {1, 12}, {5, 48}, {1, 8}};
        SpoonShort x = with("kinds 13;", "hold 5 5 5 6;");
        for (int n = 0; n <= 6; n++) {
            int cards = n;
            fraction("alone " + n, want[n][0], want[n][1], under -> x.alone(0, 0, 5, cards, under));
        }
        Check.none("alone(.., n)", NONE, Check.from(0, 6), n -> x.alone(0, 0, 5, n, true));
        Check.none("alone(.., n)", NONE, Check.from(0, 6), n -> x.alone(0, 0, 5, n, false));
        for (int left = 0; left <= 6; left++) {
            String past = " 1 1 1 1 0 0".substring(0, 2 * (6 - left));
            SpoonShort y = with("kinds 2;alike 2;", "hold 0 0;" + (past.isEmpty() ? "" : "gone" + past + ";"));
            Check.due("UNSEEN", y.unseen(0, 0, 1), left);
            Check.none("alone of " + left, NONE, Check.from(0, left), n -> y.alone(0, 0, 0, n, true));
            for (int n = 0; n <= left; n++) {
                Check.due("he has them", y.alone(0, 0, 0, n, false), 1);
            }
        }
    }

    // "there is no such KIND"
    private static void aloneKinds() {
        for (int kinds = 2; kinds <= 13; kinds++) {
            int most = kinds - 1;
            SpoonShort x = with("alike 2;kinds " + kinds + ";", "hold 0 1;");
            Check.none("alone(.., kind, ..)", NONE, Check.from(0, most), kind -> x.alone(0, 0, kind, 2, false));
            Check.due("the greatest KIND", x.alone(0, 0, most, 2, true) > 0, true);
        }
        SpoonShort y = with("alike 2;", "hold 0 1;");
        Check.none("alone(at, ..)", NONE, Check.from(0, 0), at -> y.alone(at, 0, 0, 1, true));
        Check.none("alone(0, at, ..)", NONE, Check.from(0, 0), at -> y.alone(0, at, 0, 1, true));
    }

    // "if he gathers that"
    private static void aloneWithThatKindAlone() {
        SpoonShort x = with("kinds 13;", "hold 5 5 6 7;gone 8 8;");
        fraction("one that he has twice", 1, 1035, under -> x.alone(0, 0, 5, 2, under));
        fraction("one too few to come", 0, 1, under -> x.alone(0, 0, 5, 1, under));
        fraction("one that he has once", 1, 15180, under -> x.alone(0, 0, 6, 3, under));
        fraction("one that he has not", 1, 163185, under -> x.alone(0, 0, 12, 4, under));
        fraction("a starved one", 0, 1, under -> x.alone(0, 0, 8, 6, under));
    }

    private static SpoonShort withHeap(String table, String hand, String heap) {
        SpoonShort x = with(table, hand);
        Check.due("heap " + heap, Check.tell(x, 1, heap), 0);
        return x;
    }

    private static void soonest(SpoonShort x, int behind, int kind) {
        Check.due("behind how many", x.soonest(0, 0, 0, false), behind);
        Check.due("of which KIND", x.soonest(0, 0, 0, true), kind);
    }

    // "behind how many he can have ALIKE ones": behind none, if he has them.
    private static void soonestAtOnce() {
        soonest(withHeap("alike 2;", "hold 3 3;", "cards 3 0 0;"), 0, 3);
        soonest(withHeap("alike 2;", "hold 0 0;", ""), 0, 0);
        soonest(withHeap("alike 4;", "hold 1 1 1 1;", "cards 2 2 2 2;"), 0, 1);
    }

    private static void soonestByTheLastCard() {
        soonest(withHeap("alike 2;", "hold 0 1;", "cards 1;"), 1, 1);
        soonest(withHeap("alike 2;", "hold 0 1;", "cards 2 3 0;"), 3, 0);
        soonest(withHeap("alike 2;", "hold 0 1;", "cards 2 3 2 0;"), 3, 2);
        soonest(withHeap("kinds 13;alike 4;", "hold 0 1 2 3;", "cards" + Check.many(" 4 5 6", 3) + " 12 12 12 12 0;"), 13, 12);
        // One card less than that.
        soonest(withHeap("alike 2;", "hold 0 1;", "cards 2 3;"), NONE, NONE);
        // 52 cards, the last of which it is.
        StringBuilder heap = new StringBuilder("cards 0 0 0");
        for (int i = 0; i < 48; i++) {
            heap.append(' ').append(1 + i % 12);
        }
        SpoonShort x = withHeap("kinds 13;alike 2;copies 4;", "hold 0 1;", heap + " 7;");
        soonest(x, 1, 0);
        heap = new StringBuilder("cards");
        for (int i = 0; i < 11; i++) {
            heap.append(' ').append(2 + i);
        }
        soonest(withHeap("kinds 13;alike 2;", "hold 0 1;", heap + " 12;"), 12, 12);
        soonest(withHeap("kinds 13;alike 2;", "hold 0 1;", heap + " 1;"), 12, 1);
        soonest(withHeap("kinds 13;alike 2;", "hold 0 1;", heap + ";"), NONE, NONE);
    }

    // "NONE: never"
    private static void soonestNever() {
        soonest(withHeap("alike 2;", "hold 0 1;", ""), NONE, NONE);
        soonest(withHeap("alike 3;", "hold 0 1 1;", "cards 0 2 3 2 3;"), NONE, NONE);
        soonest(withHeap("alike 3;", "hold 0 1 1;", "cards 0 2 3 2 3 0;"), 6, 0);
    }

    // "a KIND of either is not there": wherever it is in the HEAP.
    private static void soonestKindsThatAreNotThere() {
        for (int kinds = 3; kinds <= 12; kinds++) {
            String table = "alike 2;kinds " + kinds + ";";
            int last = kinds - 1;
            soonest(withHeap(table, "hold 0 1;", "cards " + last + " " + last + ";"), 2, last);
            soonest(withHeap(table, "hold 0 1;", "cards " + last + " 0 " + kinds + ";"), NONE, NONE);
            soonest(withHeap(table, "hold 0 1;", "cards " + kinds + " 0;"), NONE, NONE);
            soonest(withHeap(table, "hold 1 1;", "cards 0 12;"), NONE, NONE);
            soonest(withHeap(table, "hold 0 " + kinds + ";", "cards 0;"), NONE, NONE);
            soonest(withHeap(table, "hold 0 1;gone " + kinds + ";", "cards 0;"), NONE, NONE);
        }
    }

    private static void soonestOfNone() {
        SpoonShort x = withHeap("alike 2;", "hold 0 1;", "cards 0;");
        Check.none("soonest(at, ..)", NONE, Check.from(0, 0), at -> x.soonest(at, 0, 0, false));
        Check.none("soonest(0, at, ..)", NONE, Check.from(0, 0), at -> x.soonest(0, at, 0, true));
        SpoonShort y = withHeap("alike 2;", "hold 0 1;", "cards 0;");
        Check.none("soonest(0, 0, at, ..)", NONE, Check.from(0, 0), at -> y.soonest(0, 0, at, false));
        Check.due("the HAND does not FIT", withHeap("alike 2;", "hold 0;", "cards 0;").soonest(0, 0, 0, false), NONE);
    }

    // "KEEPS, j 0 .. 4": none or more is sure, more than ALIKE can't be.
    private static void keepsNoneToFour() {
        long[][] twoOfFourteen = {{1, 1}, {25, 91}, {1, 91}, {0, 1}, {0, 1}};
        long[][] fourOfFourteen = {{1, 1}, {46, 91}, {6, 91}, {0, 1}, {0, 1}};
        long[][] fourOfTwelve = {{1, 1}, {85, 99}, {67, 165}, {1, 15}, {1, 495}};
        SpoonShort x = with("alike 2;", "hold 0 0;");
        SpoonShort y = with("", "hold 0 0 0 0;");
        for (int j = 0; j <= 4; j++) {
            int many = j;
            fraction("two left", twoOfFourteen[j][0], twoOfFourteen[j][1], under -> x.keeps(0, 0, 0, many, under));
            fraction("four left", fourOfFourteen[j][0], fourOfFourteen[j][1], under -> x.keeps(0, 0, 3, many, under));
            fraction("ALIKE 4", fourOfTwelve[j][0], fourOfTwelve[j][1], under -> y.keeps(0, 0, 3, many, under));
            fraction("none left", j == 0 ? 1 : 0, 1, under -> y.keeps(0, 0, 0, many, under));
        }
        Check.none("keeps(.., j)", NONE, Check.from(0, 4), j -> x.keeps(0, 0, 0, j, false));
        Check.none("keeps(.., j)", NONE, Check.from(0, 4), j -> x.keeps(0, 0, 0, j, true));
    }

    // "fewer UNSEEN ones than ALIKE"
    private static void keepsWithAsManyAsAlike() {
        SpoonShort x = with("kinds 3;copies 3;alike 3;", "hold 0 1 2;gone 0 1 2;");
        Check.due("UNSEEN", x.unseen(0, 0, 1), 3);
        fraction("just as many", 1, 1, under -> x.keeps(0, 0, 2, 1, under));
        fraction("just as many", 0, 1, under -> x.keeps(0, 0, 2, 2, under));
        SpoonShort y = with("kinds 3;copies 3;alike 3;", "hold 0 1 2;gone 0 1 2 2;");
        neither("one fewer", under -> y.keeps(0, 0, 2, 0, under));
        neither("one fewer", under -> y.keeps(0, 0, 1, 1, under));
    }

    // "there is no such KIND, ... it does not FIT, or there is none such (of either)"
    private static void keepsOfNone() {
        SpoonShort x = with("kinds 5;alike 2;", "hold 0 0;");
        Check.none("keeps(.., kind, ..)", NONE, Check.from(0, 4), kind -> x.keeps(0, 0, kind, 0, true));
        Check.none("keeps(at, ..)", NONE, Check.from(0, 0), at -> x.keeps(at, 0, 0, 0, true));
        SpoonShort y = with("kinds 13;alike 2;", "hold 0 0;");
        Check.none("keeps(0, at, ..)", NONE, Check.from(0, 0), at -> y.keeps(0, at, 0, 0, true));
        Check.due("the greatest KIND", y.keeps(0, 0, 12, 2, true), 1225);
    }
}

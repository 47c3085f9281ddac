import java.util.Arrays;

/**
 * The boundary cases of promises 9 and 11 to 19: for each sentence of the document that names one, a test that bears its
 * words.
 */
public final class EdgesOfRoundsTest {
    private static final int NONE = SpoonShort.NONE;
    private static final String ONE = "person 1 1 0 0;";
    private static final String TWO = ONE + ONE;
    private static final String THREE = "kinds 4;alike 2;" + ONE + TWO;
    // PERSON 0 has 0 1, 1 has 2 3, 2 has 0 1; 2 3 3 are the HEAP.
    private static final String NINE = "cards 0 1 2 3 0 1 2 3 3;";
    // One card alone is the HEAP.
    private static final String SEVEN = "cards 0 1 2 3 0 1 2;";
    // PERSON 0 has 0 0 from the first on, and may take a third one.
    private static final String PAIR = "cards 0 0 1 2 1 2 0 3;";

    public static void main(String[] args) {
        moreCardsThanAllHold();
        noneOftenerThanCopies();
        allItsKindsAreThere();
        noneSuchToFit();
        dealt();
        bookWithoutDeeds();
        stopAtTheFirst();
        deedsOfNobody();
        takes();
        takesFromTheHeap();
        theLongestWaiting();
        hands();
        reachesWithCause();
        touchesWithoutCause();
        anybodyReachesBehindTheFirst();
        allButOne();
        behindTheRoundNothing();
        tenthsAndFeints();
        noSuchState();
        noSuchHolder();
        stopOfNone();
        alikeAtTenthNone();
        paces();
        noCardForHim();
        lawMost();
        lawAim();
        lawKeep();
        lawNever();
        asSoonAsHeHasHandedOn();
        spoonsBehindIt();
        ofSeveralTheGreatestIsLast();
        upToTenth2000();
        mends();
        mendsUpToTenth2000();
        answersOfARound();
        behindATenth();
        shuffledPlaces();
        shuffledWithoutSign();
        eveningOfOneLetter();
        eveningOfManyLetters();
        eveningThatNeverEnds();
        answersOfAnEvening();
        luckOfOneRound();
        luckOfRounds();
        seedGoesOn();
        otherwiseValues();
        otherwiseAsTold();
        otherwiseByLaw();
        otherwiseBySeat();
        betterOfSeveralTheLeast();
        betterAtTheEndOfTheValues();
        otherwiseOfNone();
        Check.finish();
    }

    private static SpoonShort with(String table, String heap) {
        SpoonShort x = Check.fine(0, table);
        Check.due("heap " + heap, Check.tell(x, 1, heap), 0);
        return x;
    }

    private static SpoonShort with(String table, String heap, String book) {
        SpoonShort x = with(table, heap);
        Check.due("book " + book, Check.tell(x, 2, book), 0);
        return x;
    }

    private static void stops(String heap, String book, int want) {
        SpoonShort x = with(THREE, heap, book);
        Check.due("STOP of " + book + " with " + heap, x.stop(0, 0, 0), want);
        Check.due("the STATE at STOP", x.state(0, 0, 0, want, 2) != -2, true);
        Check.due("none behind STOP", x.state(0, 0, 0, want + 1, 2), -2);
        Check.due("nobody holds behind STOP", x.holds(0, 0, 0, want + 1, 0, NONE), -2);
    }

    // "it has more cards than all PEOPLE hold"
    private static void moreCardsThanAllHold() {
        for (int people = 2; people <= 6; people++) {
            for (int alike = 2; alike <= 4; alike++) {
                String table = "kinds 13;alike " + alike + ";" + Check.many(ONE, people);
                StringBuilder heap = new StringBuilder("cards");
                for (int i = 0; i < people * alike; i++) {
                    heap.append(' ').append(i % 13);
                }
                SpoonShort x = with(table, heap + ";");
                Check.due("just as many as all hold", x.fits(0, 0), 0);
                Check.due("no ROUND", x.round(0, 0, 0), -2);
                Check.due("no tenth", x.behind(0, 0, 0, 0, 0), -2);
                x = with(table, heap + " 12;");
                Check.due("one more", x.fits(0, 0), 1);
                Check.due("one is the HEAP", x.behind(0, 0, 0, 0, NONE), 1);
                Check.due("one fewer", with(table, heap.substring(0, heap.lastIndexOf(" ")) + ";").fits(0, 0), 0);
            }
        }
        Check.due("no CARDS", with(THREE, "").fits(0, 0), 0);
    }

    // "none oftener than COPIES"
    private static void noneOftenerThanCopies() {
        for (int copies = 1; copies <= 4; copies++) {
            String table = "kinds 13;alike 2;copies " + copies + ";" + TWO;
            for (int kind : new int[] {0, 6, 12}) {
                String others = "cards 1 2 3 4 5" + Check.many(" " + kind, copies);
                Check.due("as often as COPIES", with(table, others + ";").fits(0, 0), 1);
                Check.due("once more", with(table, others + " " + kind + ";").fits(0, 0), 0);
            }
        }
        SpoonShort x = Check.fine(0, "kinds 13;" + TWO);
        StringBuilder pack = new StringBuilder("cards");
        for (int i = 0; i < 52; i++) {
            pack.append(' ').append(i / 4);
        }
        Check.tell(x, 1, pack + ";");
        Check.due("the whole PACK", x.fits(0, 0), 1);
    }

    // "all its KINDS are there"
    private static void allItsKindsAreThere() {
        for (int kinds = 3; kinds <= 13; kinds++) {
            String table = "kinds " + kinds + ";alike 2;" + TWO;
            Check.due("the greatest KIND", with(table, "cards 0 1 0 1 0 " + (kinds - 1) + ";").fits(0, 0), 1);
            if (kinds < 13) {
                Check.due("one above", with(table, "cards 0 1 0 1 0 " + kinds + ";").fits(0, 0), 0);
                Check.due("one above first", with(table, "cards " + kinds + " 0 1 0 1 0;").fits(0, 0), 0);
            }
        }
    }

    // "1, 0. NONE: there is none such (of either)."
    private static void noneSuchToFit() {
        SpoonShort x = with(THREE, NINE);
        Check.none("fits(at, 0)", NONE, Check.from(0, 0), at -> x.fits(at, 0));
        Check.none("fits(0, at)", NONE, Check.from(0, 0), at -> x.fits(0, at));
        SpoonShort y = with(THREE, NINE);
        Check.tell(y, 0, THREE);
        Check.tell(y, 1, "cards 0;");
        Check.none("fits(at, 1) of two", NONE, Check.from(0, 1), at -> y.fits(at, 1));
        Check.due("fits(1, 0)", y.fits(1, 0), 1);
        Check.due("fits(1, 1)", y.fits(1, 1), 0);
    }

    // "from the uppermost on, ALIKE cards to each of PEOPLE, one after the other"
    private static void dealt() {
        for (int alike = 2; alike <= 4; alike++) {
            String table = "kinds 13;alike " + alike + ";" + ONE + TWO;
            SpoonShort x = with(table, "cards 0 1 2 3 4 5 6 7 8 9 10 11 12;", "");
            for (int p = 0; p < 3; p++) {
                for (int kind = 0; kind < 13; kind++) {
                    int want = kind / alike == p ? 1 : 0;
                    Check.due("at tenth 0", x.behind(0, 0, 0, p, kind), want);
                    Check.due("behind no DEED", x.holds(0, 0, 0, 0, p, kind), want);
                }
                Check.due("waits at tenth 0", x.behind(0, 0, 0, p, NONE), p == 0 ? 13 - 3 * alike : 0);
                Check.due("waits behind no DEED", x.state(0, 0, 0, 0, 30 + p), p == 0 ? 13 - 3 * alike : 0);
                Check.due("holds", x.holds(0, 0, 0, 0, p, NONE), alike);
            }
            Check.due("the HEAP", x.state(0, 0, 0, 0, 4), 13 - 3 * alike);
            Check.due("none AWAY", x.state(0, 0, 0, 0, 3), 0);
        }
    }

    // A BOOK of none: "else how many there are".
    private static void bookWithoutDeeds() {
        stops(NINE, "", 0);
        SpoonShort x = with(THREE, NINE, "");
        int[] want = {0, 0, NONE, 0, 3, 0};
        for (int what = 0; what < 6; what++) {
            Check.due("the first STATE: " + what, x.state(0, 0, 0, 0, what), want[what]);
        }
        for (int p = 0; p < 3; p++) {
            Check.due("LETTERS", x.state(0, 0, 0, 0, 20 + p), 0);
            Check.due("nobody has a spoon", x.state(0, 0, 0, 0, 10 + p), -2);
        }
    }

    // "STOP: the first DEED that can't be, else how many there are."
    private static void stopAtTheFirst() {
        stops(NINE, "take 1;take 0;", 0);
        stops(NINE, "take 0;take 1;take 1;", 1);
        stops(NINE, "take 0;hand 0 2;take 0;hand 0 3;take 1;take 1;pass 1;", 5);
        stops(NINE, "take 0;", 1);
        stops(NINE, Check.many("pass 1;", 40), 40);
        stops(NINE, Check.many("feint 0;", 39) + "take 1;", 39);
        stops(NINE, Check.many("reach 0;", 40), 40);
    }

    // "there is no such one of PEOPLE": of each DEED that tells of one.
    private static void deedsOfNobody() {
        for (int who = 3; who <= 5; who++) {
            stops(NINE, "take " + who + ";", 0);
            stops(NINE, "pass 1;hand " + who + " 0;", 1);
            stops(NINE, "feint " + who + ";", 0);
            stops(NINE, "reach " + who + ";", 0);
            stops(PAIR, "reach 0;reach " + who + ";", 1);
        }
        stops(NINE, "feint 2;feint 0;", 2);
    }

    // "take: one who holds ALIKE cards takes one, if there is one for him."
    private static void takes() {
        stops(NINE, "take 0;take 0;", 1);
        stops(NINE, "take 0;hand 0 0;take 0;", 3);
        stops(NINE, "take 1;", 0);
        stops(NINE, "take 2;", 0);
        stops(NINE, "take 0;take 1;", 1);
        stops(NINE, "take 0;hand 0 2;take 1;take 1;", 3);
        stops(NINE, "take 0;hand 0 2;take 1;hand 1 3;take 1;", 4);
        stops(NINE, "take 0;hand 0 2;take 2;", 2);
    }

    // "when PERSON 0 would take and the HEAP is empty, those AWAY are the HEAP, the one that is longest AWAY uppermost."
    private static void takesFromTheHeap() {
        // The HEAP is empty, none are AWAY.
        stops(SEVEN, "take 0;hand 0 2;take 0;", 2);
        stops(SEVEN, "take 0;hand 0 2;take 1;hand 1 3;take 0;", 4);
        String once = "take 0;hand 0 1;take 1;hand 1 2;take 2;hand 2 2;";
        SpoonShort x = with(THREE, "cards 0 1 2 3 0 1 2 3;", once + "take 0;hand 0 3;take 1;hand 1 3;take 2;hand 2 3;take 0;hand 0 2;take 0;");
        Check.due("STOP", x.stop(0, 0, 0), 15);
        Check.due("one is AWAY", x.state(0, 0, 0, 6, 3), 1);
        Check.due("one is the HEAP", x.state(0, 0, 0, 6, 4), 1);
        Check.due("that one is taken first", x.holds(0, 0, 0, 7, 0, 3), 1);
        Check.due("the other is AWAY still", x.state(0, 0, 0, 7, 3), 1);
        Check.due("the HEAP is empty", x.state(0, 0, 0, 7, 4), 0);
        Check.due("two are AWAY", x.state(0, 0, 0, 12, 3), 2);
        Check.due("the HEAP is empty still", x.state(0, 0, 0, 12, 4), 0);
        Check.due("none are AWAY", x.state(0, 0, 0, 13, 3), 0);
        Check.due("one more is the HEAP", x.state(0, 0, 0, 13, 4), 1);
        Check.due("the longest AWAY was taken", x.holds(0, 0, 0, 13, 0, 2), 2);
        Check.due("then the other", x.holds(0, 0, 0, 15, 0, 3), 1);
        Check.due("and the HEAP is empty", x.state(0, 0, 0, 15, 4), 0);
        // Just one AWAY.
        x = with(THREE, SEVEN, once + "take 0;");
        Check.due("STOP", x.stop(0, 0, 0), 7);
        Check.due("it is taken", x.holds(0, 0, 0, 7, 0, 2), 2);
        Check.due("none AWAY", x.state(0, 0, 0, 7, 3), 0);
    }

    // "each other one, of the cards that the one ahead handed on to him, the one that waits longest"
    private static void theLongestWaiting() {
        SpoonShort x = with(THREE, NINE, "take 0;hand 0 1;take 0;hand 0 0;take 1;hand 1 3;take 1;hand 1 2;take 2;hand 2 0;take 2;");
        Check.due("STOP", x.stop(0, 0, 0), 11);
        Check.due("two wait for 1", x.state(0, 0, 0, 4, 31), 2);
        Check.due("the first one", x.holds(0, 0, 0, 5, 1, 1), 1);
        Check.due("not the second", x.holds(0, 0, 0, 5, 1, 0), 0);
        Check.due("the second one", x.holds(0, 0, 0, 7, 1, 0), 1);
        Check.due("none waits for 1", x.state(0, 0, 0, 7, 31), 0);
        Check.due("the first one", x.holds(0, 0, 0, 9, 2, 3), 1);
        Check.due("one waits for 2", x.state(0, 0, 0, 9, 32), 1);
        Check.due("the second one", x.holds(0, 0, 0, 11, 2, 2), 1);
    }

    // "hand: one who holds one more hands on one of a KIND that he has."
    private static void hands() {
        stops(NINE, "hand 0 0;", 0);
        stops(NINE, "take 0;hand 0 0;hand 0 1;", 2);
        stops(NINE, "take 0;hand 1 2;", 1);
        for (int kind = 0; kind <= 12; kind++) {
            boolean has = kind <= 2;
            stops(NINE, "take 0;hand 0 " + kind + ";", has ? 2 : 1);
        }
        // One of several of a KIND alone.
        SpoonShort x = with(THREE, PAIR, "take 0;hand 0 0;");
        Check.due("three", x.holds(0, 0, 0, 1, 0, 0), 3);
        Check.due("two", x.holds(0, 0, 0, 2, 0, 0), 2);
        Check.due("one waits", x.state(0, 0, 0, 2, 31), 1);
    }

    private static void spoons(SpoonShort x, int n, int taken, int last, int... letters) {
        Check.due("spoons taken behind " + n, x.state(0, 0, 0, n, 1), taken);
        Check.due("LAST behind " + n, x.state(0, 0, 0, n, 2), last);
        for (int p = 0; p < letters.length; p++) {
            Check.due("LETTERS of " + p + " behind " + n, x.state(0, 0, 0, n, 20 + p), letters[p]);
        }
    }

    // "reach: who holds just ALIKE cards, all of one KIND, ... takes a spoon, if he has none"; "(reach: he has a spoon)".
    private static void reachesWithCause() {
        SpoonShort x = with(THREE, PAIR, "reach 0;reach 0;");
        Check.due("he has a spoon", x.stop(0, 0, 0), 1);
        spoons(x, 1, 1, NONE, 0, 0, 0);
        Check.due("the first spoon", x.state(0, 0, 0, 1, 10), 0);
        Check.due("the second is not taken", x.state(0, 0, 0, 1, 11), -2);
        stops(PAIR, "reach 0;pass 1;reach 0;", 2);
        // Who has a spoon may go on passing cards.
        stops(PAIR, "reach 0;take 0;hand 0 0;feint 0;", 4);
        for (int alike = 2; alike <= 4; alike++) {
            String same = "cards" + Check.many(" 1", alike) + Check.many(" 2 3", alike) + ";";
            x = with("alike " + alike + ";" + TWO, same, "reach 0;");
            spoons(x, 1, 1, 1, 0, 1);
            String butOne = "cards" + Check.many(" 1", alike - 1) + " 0" + Check.many(" 2 3", alike) + ";";
            x = with("alike " + alike + ";" + TWO, butOne, "reach 0;");
            spoons(x, 1, 0, NONE, 1, 0);
        }
    }

    // "another one who has none TOUCHES without cause: a LETTER."
    private static void touchesWithoutCause() {
        SpoonShort x = with(THREE, PAIR, "reach 1;reach 1;reach 2;take 0;reach 0;hand 0 0;reach 0;");
        Check.due("STOP", x.stop(0, 0, 0), 7);
        spoons(x, 1, 0, NONE, 0, 1, 0);
        spoons(x, 2, 0, NONE, 0, 2, 0);
        spoons(x, 3, 0, NONE, 0, 2, 1);
        // All of one KIND, but one more than ALIKE.
        Check.due("three of a KIND", x.holds(0, 0, 0, 4, 0, 0), 3);
        spoons(x, 5, 0, NONE, 1, 2, 1);
        spoons(x, 7, 1, NONE, 1, 2, 1);
        // ALIKE ones of one KIND, but one more card.
        x = with(THREE, "cards 0 0 1 2 1 2 3;", "take 0;reach 0;hand 0 3;reach 0;");
        spoons(x, 2, 0, NONE, 1, 0, 0);
        spoons(x, 4, 1, NONE, 1, 0, 0);
        x = with(THREE, NINE, Check.many("reach 2;", 40));
        spoons(x, 40, 0, NONE, 0, 0, 40);
    }

    // "or anybody, if a spoon is taken already"
    private static void anybodyReachesBehindTheFirst() {
        SpoonShort x = with(THREE, PAIR, "reach 0;reach 2;");
        spoons(x, 2, 2, 1, 0, 1, 0);
        x = with(THREE, PAIR, "take 0;hand 0 0;take 1;reach 0;reach 1;");
        Check.due("with one card more, too", x.holds(0, 0, 0, 5, 1, NONE), 3);
        spoons(x, 5, 2, 2, 0, 0, 1);
        Check.due("the second spoon", x.state(0, 0, 0, 5, 11), 1);
    }

    // "As soon as all but one have spoons, that one is LAST, and has a LETTER, too; the round is over."
    private static void allButOne() {
        SpoonShort x = with("kinds 3;alike 2;" + TWO, "cards 0 0 1 2 1;", "reach 1;reach 1;reach 0;reach 1;");
        Check.due("of two: STOP", x.stop(0, 0, 0), 3);
        spoons(x, 2, 0, NONE, 0, 2);
        spoons(x, 3, 1, 1, 0, 3);
        String six = "kinds 13;alike 2;" + Check.many(ONE, 6);
        x = with(six, "cards 0 0 1 2 3 4 5 6 7 8 9 10 11;", "reach 0;reach 5;reach 1;reach 4;reach 2;reach 3;");
        Check.due("of six: STOP", x.stop(0, 0, 0), 5);
        spoons(x, 4, 4, NONE, 0, 0, 0, 0, 0, 0);
        spoons(x, 5, 5, 3, 0, 0, 0, 1, 0, 0);
        int[] order = {0, 5, 1, 4, 2};
        for (int i = 0; i < 5; i++) {
            Check.due("spoon " + i, x.state(0, 0, 0, 5, 10 + i), order[i]);
        }
        SpoonShort y = with(six, "cards 0 0 1 2 3 4 5 6 7 8 9 10 11;", "reach 0;reach 5;reach 1;reach 4;reach 2;");
        Check.none("of six: state(.., 5, what)", -2, what -> what >= 0 && what <= 5 || what >= 10 && what <= 14
            || what >= 20 && what <= 25 || what >= 30 && what <= 35, what -> y.state(0, 0, 0, 5, what));
    }

    // "A DEED can't be, if the round is over".
    private static void behindTheRoundNothing() {
        for (String deed : new String[] {"take 0;", "hand 0 0;", "reach 2;", "reach 0;", "feint 0;", "pass 1;", "feint 5;"}) {
            stops(PAIR, "reach 0;reach 1;" + deed, 2);
            stops(PAIR, "take 0;hand 0 0;take 1;reach 0;reach 1;" + deed + "pass 1;", 5);
        }
        stops(PAIR, "reach 0;reach 1;hand 1 0;", 2);
        stops(PAIR, "take 0;hand 0 0;take 1;reach 0;reach 1;hand 1 0;", 5);
    }

    // "pass: tenths go", 1 .. 9; "feint: nothing".
    private static void tenthsAndFeints() {
        SpoonShort x = with(THREE, NINE, "pass 1;feint 0;pass 9;feint 1;feint 1;feint 2;");
        int[] tenths = {0, 1, 1, 10, 10, 10, 10};
        int[] feints = {0, 0, 1, 1, 2, 3, 4};
        for (int n = 0; n <= 6; n++) {
            Check.due("tenths behind " + n, x.state(0, 0, 0, n, 0), tenths[n]);
            Check.due("feints behind " + n, x.state(0, 0, 0, n, 5), feints[n]);
            spoons(x, n, 0, NONE, 0, 0, 0);
            Check.due("holds behind " + n, x.holds(0, 0, 0, n, 1, NONE), 2);
        }
        x = with(THREE, NINE, Check.many("pass 9;", 40));
        Check.due("the most tenths", x.state(0, 0, 0, 40, 0), 360);
    }

    // "A STATE is behind the first n DEEDS, n up to STOP"; "-2: there is no such STATE, or for another what."
    private static void noSuchState() {
        String book = "pass 1;reach 0;take 0;take 0;pass 1;";
        SpoonShort x = with(THREE, PAIR, book);
        Check.due("STOP", x.stop(0, 0, 0), 3);
        Check.none("state(.., n, 0)", -2, Check.from(0, 3), n -> x.state(0, 0, 0, n, 0));
        Check.none("state(.., 3, what)", -2, what -> what >= 0 && what <= 5 || what == 10 || what >= 20 && what <= 22
            || what >= 30 && what <= 32, what -> x.state(0, 0, 0, 3, what));
        SpoonShort y = with(THREE, PAIR, book);
        Check.none("state(at, ..)", -2, Check.from(0, 0), at -> y.state(at, 0, 0, 0, 0));
        Check.none("state(0, at, ..)", -2, Check.from(0, 0), at -> y.state(0, at, 0, 0, 0));
        SpoonShort z = with(THREE, PAIR, book);
        Check.none("state(0, 0, at, ..)", -2, Check.from(0, 0), at -> z.state(0, 0, at, 0, 0));
        SpoonShort w = with(THREE, "cards 0 0 1 2 1 2;", book);
        Check.none("of a HEAP that does not FIT", -2, n -> false, n -> w.state(0, 0, 0, n, 0));
    }

    // "-2: there is no such STATE, PERSON or KIND."
    private static void noSuchHolder() {
        SpoonShort x = with(THREE, PAIR, "pass 1;take 1;");
        Check.none("holds(.., n, 0, 0)", -2, Check.from(0, 1), n -> x.holds(0, 0, 0, n, 0, 0));
        Check.none("holds(.., 1, p, 0)", -2, Check.from(0, 2), p -> x.holds(0, 0, 0, 1, p, 0));
        SpoonShort y = with(THREE, PAIR, "pass 1;take 1;");
        Check.none("holds(.., 1, 0, kind)", -2, Check.from(-1, 3), kind -> y.holds(0, 0, 0, 1, 0, kind));
        Check.none("holds(at, ..)", -2, Check.from(0, 0), at -> y.holds(at, 0, 0, 0, 0, 0));
        SpoonShort z = with(THREE, PAIR, "pass 1;take 1;");
        Check.none("holds(0, at, ..)", -2, Check.from(0, 0), at -> z.holds(0, at, 0, 0, 0, 0));
        Check.none("holds(0, 0, at, ..)", -2, Check.from(0, 0), at -> z.holds(0, 0, at, 0, 0, NONE));
    }

    // "NONE: the HEAP does not FIT, or there is none such (of any)."
    private static void stopOfNone() {
        SpoonShort x = with(THREE, PAIR, "pass 1;");
        Check.none("stop(at, 0, 0)", NONE, Check.from(0, 0), at -> x.stop(at, 0, 0));
        Check.none("stop(0, at, 0)", NONE, Check.from(0, 0), at -> x.stop(0, at, 0));
        SpoonShort y = with(THREE, PAIR, "pass 1;");
        Check.none("stop(0, 0, at)", NONE, Check.from(0, 0), at -> y.stop(0, 0, at));
        for (String heap : new String[] {"", "cards 0 1 2 3 0 1;", "cards 0 1 2 3 0 1 4;", "cards 0 0 0 0 0 1 2;"}) {
            Check.due("does not FIT: " + heap, with(THREE, heap, "pass 1;").stop(0, 0, 0), NONE);
        }
    }

    private static void round(SpoonShort x, int tenth, int first, int last) {
        Check.due("the tenth", x.round(0, 0, 0), tenth);
        Check.due("FIRST", x.round(0, 0, 1), first);
        Check.due("LAST", x.round(0, 0, 2), last);
    }

    // "at tenth 0 by numbers"
    private static void alikeAtTenthNone() {
        round(with(THREE, "cards 0 0 1 1 2 2 3;"), 0, 0, 2);
        round(with(THREE, "cards 0 1 1 1 2 2 3;"), 0, 1, 2);
        round(with(THREE, "cards 0 1 1 2 2 2 3;"), 0, 2, 1);
        SpoonShort x = with(THREE, "cards 0 1 1 2 2 2 1;");
        round(x, 0, 2, 1);
        Check.due("none are handed on", x.round(0, 0, 3), 0);
        Check.due("his spoon", x.round(0, 0, 12), 0);
        Check.due("another one's", x.round(0, 0, 10), 1);
        Check.due("nobody MENDS it", x.round(0, 0, 4), NONE);
        for (int tenth : new int[] {0, 1, 9, 2000}) {
            Check.due("as at its end", x.behind(0, 0, tenth, 0, NONE), 1);
            Check.due("as at its end", x.behind(0, 0, tenth, 0, 1), 1);
        }
        // All but one of a KIND is not enough.
        x = with("alike 4;" + TWO, "cards 1 1 1 0 2 2 2 0 3;");
        Check.due("not at tenth 0", x.round(0, 0, 0) != 0, true);
    }

    // "Each tenth, from 1 on, each whose PACE goes into it"
    private static void paces() {
        for (int pace = 1; pace <= 9; pace++) {
            String table = "kinds 13;alike 2;person " + pace + " 1 0 0;person 9 1 0 0;law 0 never;law 1 never;";
            SpoonShort x = with(table, "cards 0 1 2 3 4 5 6 7 8 9 10 11 12 4 5 6 7 8 9 10 11 12 4 5 6 7 8 9 10 11 12 4 5 6 7 8 9;");
            for (int tenth = 0; tenth <= 30; tenth++) {
                Check.due("the HEAP behind " + tenth, x.behind(0, 0, tenth, 0, NONE), 33 - tenth / pace);
                int waits = tenth / pace - tenth / 9;
                Check.due("waits behind " + tenth, x.behind(0, 0, tenth, 1, NONE), waits);
            }
        }
    }

    // "takes a card, if there is one for him"
    private static void noCardForHim() {
        String table = "kinds 5;alike 2;person 4 1 0 0;person 1 1 0 0;law 0 never;law 1 never;";
        SpoonShort x = with(table, "cards 0 1 2 3 4;");
        Check.due("he has one each fourth tenth", x.round(0, 0, 21), 500);
        Check.due("PERSON 0, too", x.round(0, 0, 20), 500);
        // PERSON 0 would take, but neither the HEAP nor those AWAY have one.
        table = "kinds 5;alike 2;person 1 1 0 0;person 4 1 0 0;law 0 never;law 1 never;";
        x = with(table, "cards 0 1 2 3 4;");
        Check.due("PERSON 0 each fourth tenth, once ahead", x.round(0, 0, 20), 500);
        Check.due("PERSON 1", x.round(0, 0, 21), 500);
        Check.due("it waits", x.behind(0, 0, 3, 1, NONE), 1);
        Check.due("it is AWAY", x.behind(0, 0, 4, 1, NONE), 0);
        Check.due("it waits again", x.behind(0, 0, 5, 1, NONE), 1);
        Check.due("the HEAP is empty", x.behind(0, 0, 5, 0, NONE), 0);
    }

    /** PERSON 0 holds these three, takes the card, and hands on the KIND by his LAW. */
    private static void handsOn(String law, String held, int takes, int want) {
        String table = "kinds 6;alike 3;person 1 1 0 0;person 9 1 0 0;law 0 " + law + ";";
        SpoonShort x = with(table, "cards " + held + " 5 5 4 " + takes + " 0;");
        Check.due("one waits", x.behind(0, 0, 1, 1, NONE), 1);
        for (int kind = 0; kind < 6; kind++) {
            int many = (" " + held + " " + takes).split(" " + kind + "(?![0-9])", -1).length - 1;
            Check.due(law + " of " + held + " and " + takes + ": " + kind, x.behind(0, 0, 1, 0, kind), many - (kind == want ? 1 : 0));
        }
    }

    // "MOST: of the KIND of which he has fewest (of several the greatest)."
    private static void lawMost() {
        handsOn("most", "0 1 2", 3, 3);
        handsOn("most", "1 2 3", 0, 3);
        handsOn("most", "3 3 1", 1, 3);
        handsOn("most", "0 0 3", 3, 3);
        handsOn("most", "0 0 1", 1, 1);
        handsOn("most", "3 3 0", 1, 1);
        handsOn("most", "3 3 1", 0, 1);
        handsOn("most", "3 3 0", 3, 0);
        handsOn("most", "0 3 0", 0, 3);
    }

    // "AIM: of the greatest KIND but his"
    private static void lawAim() {
        handsOn("aim 3", "0 1 2", 3, 2);
        handsOn("aim 3", "3 3 1", 3, 1);
        handsOn("aim 3", "3 3 0", 1, 1);
        handsOn("aim 2", "0 1 2", 3, 3);
        handsOn("aim 0", "0 0 1", 0, 1);
        handsOn("aim 0", "1 1 0", 1, 1);
        handsOn("aim 4", "0 1 2", 0, 2);
        handsOn("aim 0", "3 3 0", 2, 3);
        handsOn("aim 5", "1 1 2", 5, 2);
    }

    // "KEEP: as MOST, but not his KIND"
    private static void lawKeep() {
        handsOn("keep 3", "0 1 2", 3, 2);
        handsOn("keep 3", "0 0 3", 1, 1);
        handsOn("keep 3", "0 0 3", 0, 0);
        handsOn("keep 3", "3 3 1", 1, 1);
        handsOn("keep 0", "0 1 1", 2, 2);
        handsOn("keep 0", "0 2 2", 1, 1);
        handsOn("keep 4", "0 1 2", 3, 3);
        handsOn("keep 2", "0 1 2", 1, 0);
        handsOn("keep 5", "5 5 1", 0, 1);
    }

    // "NEVER: the one that he took."
    private static void lawNever() {
        handsOn("never", "0 1 2", 3, 3);
        handsOn("never", "0 0 1", 0, 0);
        handsOn("never", "3 3 1", 3, 3);
        handsOn("never", "1 2 3", 0, 0);
    }

    // "else as soon as he has handed one on": who comes behind him at that tenth takes none.
    private static void asSoonAsHeHasHandedOn() {
        SpoonShort x = with("kinds 4;alike 2;" + ONE + TWO, "cards 0 1 2 3 1 3 0;");
        round(x, 1, 0, 2);
        Check.due("he handed one on", x.round(0, 0, 20), 1);
        Check.due("the next one none", x.round(0, 0, 21), 0);
        Check.due("in all", x.round(0, 0, 3), 1);
        Check.due("it waits", x.behind(0, 0, 1, 1, NONE), 1);
        Check.due("it waits for good", x.behind(0, 0, 2000, 1, NONE), 1);
        // PERSON 1 is: of 2 3 2 he hands on 3, and PERSON 2 takes none.
        x = with("kinds 4;alike 2;" + ONE + TWO, "cards 0 1 2 3 0 1 2;");
        round(x, 1, 1, 2);
        Check.due("ahead of him", x.round(0, 0, 20), 1);
        Check.due("he", x.round(0, 0, 21), 1);
        Check.due("behind him", x.round(0, 0, 22), 0);
        Check.due("it waits", x.behind(0, 0, 1, 2, NONE), 1);
        // ALIKE ones and one more do not make him FIRST: NEVER hands on the third one.
        x = with("kinds 5;alike 2;" + TWO + "law 0 never;law 1 never;", "cards 0 1 2 3 0;");
        round(x, NONE, NONE, NONE);
    }

    // "FIRST has his spoon QUICK and FAR tenths later. Each other one sees it at the least tenth above that which his EYES go into".
    private static void spoonsBehindIt() {
        for (int tenth = 1; tenth <= 9; tenth++) {
            for (int eyes = 1; eyes <= 9; eyes++) {
                String table = "kinds 4;alike 2;person " + tenth + " 3 2 4;person 9 " + eyes + " 0 0;person 9 " + eyes + " 9 20;";
                SpoonShort x = with(table, "cards 0 1 2 3 1 3 0;");
                int sees = tenth + 1;
                while (sees % eyes != 0) {
                    sees++;
                }
                Check.due("the tenth", x.round(0, 0, 0), tenth);
                Check.due("FIRST's spoon", x.round(0, 0, 10), tenth + 6);
                Check.due("with EYES " + eyes + " at " + tenth, x.round(0, 0, 11), sees);
                Check.due("QUICK and FAR tenths later", x.round(0, 0, 12), sees + 29);
            }
        }
    }

    // "LAST: who has it latest; of several the greatest." FIRST himself, if his is latest.
    private static void ofSeveralTheGreatestIsLast() {
        int[] last = {1, 1, 0};
        for (int far = 0; far <= 2; far++) {
            String table = "kinds 4;alike 2;person 1 1 0 " + far + ";" + ONE;
            round(with(table, "cards 0 1 2 3 0;"), 1, 0, last[far]);
        }
        int[] lastOfOthers = {0, 1, 1};
        for (int far = 0; far <= 2; far++) {
            String table = "kinds 4;alike 2;" + ONE + "person 1 1 0 " + far + ";";
            round(with(table, "cards 0 1 2 3 2;"), 1, 1, lastOfOthers[far]);
        }
        round(with("kinds 4;alike 2;person 1 1 1 0;person 1 1 1 0;person 1 1 0 0;", "cards 0 1 2 3 1 3 0;"), 1, 0, 1);
        round(with("kinds 4;alike 2;person 1 1 1 0;person 1 1 0 2;person 1 1 2 0;", "cards 0 1 2 3 1 3 0;"), 1, 0, 2);
    }

    // A ROUND that takes just as long as it may, and one that would take a tenth longer: found by a search.
    private static final String ENDS_AT_2000 = "kinds 10;alike 4;person 1 1 0 0;person 6 1 0 0;person 5 1 0 0;person 9 1 0 0;"
        + "person 7 1 0 0;person 8 1 0 0;law 0 never;law 1 aim 3;law 2 keep 5;law 3 aim 4;law 4 keep 2;law 5 keep 1;";
    private static final String CARDS_TO_2000 = "cards 2 4 9 5 1 7 9 6 3 9 3 3 3 5 5 7 0 4 4 4 2 0 2 5 1 6 1 7 8 2 0 8 0 6 9 1 6 7 8 8;";
    private static final String ENDS_AT_2001 = "kinds 10;alike 4;person 6 1 0 0;person 5 1 0 0;person 9 1 0 0;person 7 1 0 0;"
        + "person 8 1 0 0;person 3 1 0 0;law 0 never;law 1 aim 3;law 2 keep 5;law 3 aim 4;law 4 keep 2;law 5 keep 1;";
    private static final String CARDS_TO_2001 = "cards 2 4 5 9 1 2 6 9 1 3 3 3 5 0 3 5 4 4 0 4 5 0 2 2 9 6 8 6 1 8 9 7 8 7 0 1 6 8 7 7;";

    // "NEVER ENDS: nobody up to tenth 2000."
    private static void upToTenth2000() {
        SpoonShort x = with(ENDS_AT_2000, CARDS_TO_2000);
        round(x, 2000, 5, 4);
        Check.due("it ends", x.round(0, 0, 4), NONE);
        Check.due("FIRST's spoon", x.round(0, 0, 15), 2000);
        Check.due("another one's", x.round(0, 0, 13), 2001);
        Check.due("the tenth ahead", x.behind(0, 0, 1999, 5, 1), 3);
        Check.due("the last tenth", x.behind(0, 0, 2000, 5, 1), 4);
        x = with(ENDS_AT_2001, CARDS_TO_2001);
        round(x, NONE, NONE, NONE);
        for (int p = 0; p < 6; p++) {
            Check.due("no spoon", x.round(0, 0, 10 + p), NONE);
        }
        Check.due("the last tenth", x.behind(0, 0, 2000, 5, 1), 3);
        // 2000 tenths, with one card handed on each tenth by each of two.
        x = with("kinds 5;alike 2;" + TWO + "law 0 never;law 1 never;", "cards 0 1 2 3 4;");
        round(x, NONE, NONE, NONE);
        Check.due("handed on", x.round(0, 0, 3), 4000);
        Check.due("handed on by 0", x.round(0, 0, 20), 2000);
    }

    // "MENDS: of PEOPLE (in a ROUND that NEVER ENDS) the least one by whose LAW being MOST it ends."
    private static void mends() {
        String never = TWO + "law 0 never;law 1 never;";
        Check.due("each of both: the least", with("kinds 4;alike 2;" + never, "cards 0 1 0 1 0 1;").round(0, 0, 4), 0);
        Check.due("the second alone", with("kinds 4;alike 2;" + never, "cards 0 1 2 3 2;").round(0, 0, 4), 1);
        Check.due("nobody", with("kinds 5;alike 2;" + never, "cards 0 1 2 3 4;").round(0, 0, 4), NONE);
        // The first one's LAW is MOST already.
        SpoonShort x = with("kinds 4;alike 2;" + TWO + "law 1 never;", "cards 0 1 2 3 2;");
        round(x, NONE, NONE, NONE);
        Check.due("the second", x.round(0, 0, 4), 1);
        x = with("kinds 5;alike 2;" + TWO, "cards 0 1 2 3 4;");
        round(x, NONE, NONE, NONE);
        Check.due("all of whom are MOST", x.round(0, 0, 4), NONE);
        Check.due("it ends", with("kinds 4;alike 2;" + TWO + "law 1 never;", "cards 0 1 2 3 0;").round(0, 0, 4), NONE);
        Check.due("it ends at tenth 0", with("kinds 4;alike 2;" + never, "cards 0 0 2 3 0;").round(0, 0, 4), NONE);
        x = with("kinds 13;alike 2;" + Check.many(ONE, 6) + "law 0 never;law 5 never;", "cards 0 1 2 3 4 5 6 7 8 9 10 11 11;");
        Check.due("the greatest one", x.round(0, 0, 4), 5);
    }

    private static void mendsUpToTenth2000() {
        // With PERSON 1 by MOST it ends at tenth 2000 just so.
        SpoonShort x = with("kinds 12;alike 4;person 9 1 0 0;person 1 1 0 0;person 5 1 0 0;person 1 1 0 0;person 6 1 0 0;law 0 keep 3;"
            + "law 2 keep 6;law 3 aim 2;law 4 keep 4;law 1 keep 2;",
            "cards 2 4 8 10 1 3 7 0 3 2 0 5 6 1 2 6 11 6 7 2 4 0 7 5 9 0 4 3 5 10 5 9 11 10 1 11 7 8 8 9 8 1 11 10;");
        round(x, NONE, NONE, NONE);
        Check.due("at tenth 2000", x.round(0, 0, 4), 1);
        // With PERSON 1 by MOST it would end at tenth 2001: PERSON 3 does it.
        x = with("kinds 12;alike 4;person 9 1 0 0;person 8 1 0 0;person 2 1 0 0;person 3 1 0 0;person 9 1 0 0;law 0 keep 1;"
            + "law 2 keep 2;law 3 keep 6;law 4 keep 4;law 1 never;",
            "cards 7 9 4 5 1 3 3 1 3 1 1 5 7 11 2 0 8 6 6 6 5 0 4 10 10 4 2 9 2 5 0 6 8 9 11 10 0 10 11 7 11 8 7 8;");
        round(x, NONE, NONE, NONE);
        Check.due("not at tenth 2001", x.round(0, 0, 4), 3);
    }

    // "-2: the HEAP does not FIT, there is none such (of any), or for another what."
    private static void answersOfARound() {
        SpoonShort x = with(THREE, NINE);
        Check.none("round(0, 0, what)", -2, what -> what >= 0 && what <= 4 || what >= 10 && what <= 12 || what >= 20 && what <= 22,
            what -> x.round(0, 0, what));
        Check.none("round(at, 0, 0)", -2, Check.from(0, 0), at -> x.round(at, 0, 0));
        SpoonShort y = with("kinds 13;alike 2;" + Check.many(ONE, 6), "cards 0 1 2 3 4 5 6 7 8 9 10 11 12;");
        Check.none("round(0, at, 0)", -2, Check.from(0, 0), at -> y.round(0, at, 0));
        Check.none("of six: round(0, 0, what)", -2, what -> what >= 0 && what <= 4 || what >= 10 && what <= 15
            || what >= 20 && what <= 25, what -> y.round(0, 0, what));
        for (int p = 0; p < 6; p++) {
            Check.due("spoon of one that NEVER ENDS", y.round(0, 0, 10 + p), NONE);
            Check.due("handed on up to tenth 2000", y.round(0, 0, 20 + p), 2000);
        }
        for (String heap : new String[] {"", "cards 0 1 2 3 0 1;", "cards 0 1 2 3 0 1 4;", "cards 0 0 0 0 0 1 2;"}) {
            SpoonShort z = with(THREE, heap);
            for (int what : new int[] {0, 1, 2, 3, 4, 10, 20}) {
                Check.due("does not FIT: " + heap, z.round(0, 0, what), -2);
            }
        }
    }

    // "behind a tenth, 0 .. 2000"; "-2: the HEAP does not FIT, or there is none such (of any)."
    private static void behindATenth() {
        String table = "kinds 5;alike 2;" + TWO + "law 0 never;law 1 never;";
        SpoonShort x = with(table, "cards 0 1 2 3 4;");
        for (int tenth : new int[] {0, 1, 1999, 2000}) {
            Check.due("behind " + tenth, x.behind(0, 0, tenth, 1, 3), 1);
        }
        for (int tenth : new int[] {-1, -2, 2001, 2002, 4000, Integer.MAX_VALUE, Integer.MIN_VALUE}) {
            Check.due("behind " + tenth, x.behind(0, 0, tenth, 1, 3), -2);
            Check.due("waits behind " + tenth, x.behind(0, 0, tenth, 1, NONE), -2);
        }
        Check.none("behind(0, 0, 7, p, 0)", -2, Check.from(0, 1), p -> x.behind(0, 0, 7, p, 0));
        SpoonShort y = with(table, "cards 0 1 2 3 4;");
        Check.none("behind(0, 0, 7, p, NONE)", -2, Check.from(0, 1), p -> y.behind(0, 0, 7, p, NONE));
        Check.none("behind(0, 0, 7, 0, kind)", -2, Check.from(-1, 4), kind -> y.behind(0, 0, 7, 0, kind));
        SpoonShort z = with(table, "cards 0 1 2 3 4;");
        Check.none("behind(at, ..)", -2, Check.from(0, 0), at -> z.behind(at, 0, 7, 0, 0));
        Check.none("behind(0, at, ..)", -2, Check.from(0, 0), at -> z.behind(0, at, 7, 0, 0));
        Check.due("does not FIT", with(table, "cards 0 1 2 3;").behind(0, 0, 0, 0, NONE), -2);
        // Behind its end it is as at its end.
        SpoonShort ended = with("kinds 4;alike 2;" + TWO, "cards 0 1 2 3 0 3;");
        round(ended, 1, 0, 1);
        int[][] want = {{0, 2, 1, 0}, {1, 1, 2, 1}, {2, 1, 2, 1}, {2000, 1, 2, 1}};
        for (int[] row : want) {
            Check.due("the HEAP behind " + row[0], ended.behind(0, 0, row[0], 0, NONE), row[1]);
            Check.due("KIND 0 behind " + row[0], ended.behind(0, 0, row[0], 0, 0), row[2]);
            Check.due("waits behind " + row[0], ended.behind(0, 0, row[0], 1, NONE), row[3]);
        }
    }

    // "for each place from the last one down to place 1 a number below that place and 1"; "its k-th card. NONE: there is none such".
    private static void shuffledPlaces() {
        String five = "kinds 5;copies 1;alike 2;" + TWO;
        int[][] packs = {{0, 2, 1, 3, 4, 0}, {1, 4, 1, 0, 2, 3}, {2, 3, 0, 2, 4, 1}, {-1, 4, 0, 3, 1, 2},
            {Integer.MIN_VALUE, 4, 2, 1, 0, 3}, {Integer.MAX_VALUE, 3, 2, 0, 1, 4}, {42, 0, 2, 3, 1, 4}};
        for (int[] pack : packs) {
            SpoonShort x = Check.fine(0, five);
            for (int k = 0; k < 5; k++) {
                Check.due("card " + k + " by " + pack[0], x.shuffled(0, pack[0], k), pack[1 + k]);
            }
            Check.none("shuffled(0, seed, k)", NONE, Check.from(0, 4), k -> x.shuffled(0, pack[0], k));
            Check.none("shuffled(at, seed, 0)", NONE, Check.from(0, 0), at -> x.shuffled(at, pack[0], 0));
        }
        for (int kinds = 2; kinds <= 13; kinds++) {
            for (int copies = 3; copies <= 4; copies++) {
                SpoonShort y = Check.fine(0, "kinds " + kinds + ";alike 2;copies " + copies + ";" + TWO);
                int size = kinds * copies;
                int[] many = new int[13];
                for (int k = 0; k < size; k++) {
                    many[Math.floorMod(y.shuffled(0, 9, k), 13)]++;
                }
                for (int kind = 0; kind < 13; kind++) {
                    Check.due("all COPIES of " + kind, many[kind], kind < kinds ? copies : 0);
                }
                Check.none("of " + size, NONE, Check.from(0, size - 1), k -> y.shuffled(0, 9, k));
            }
        }
    }

    // "x becomes x * 1103515245 + 12345 (of 32 bits), it is x shifted right by 16 without sign"
    private static void shuffledWithoutSign() {
        int[] byNone = {5, 2, 3, 12, 0, 7, 4, 8, 9, 0, 12, 1, 3, 3, 2, 5, 5, 6, 8, 7, 0, 11, 4, 11, 10, 4, 7, 7, 10, 11, 9, 11, 10, 12, 6,
            1, 3, 8, 2, 6, 8, 12, 6, 2, 9, 9, 4, 10, 1, 1, 5, 0};
        int[] byMinusOne = {3, 7, 9, 9, 6, 9, 2, 1, 11, 6, 6, 2, 11, 2, 4, 0, 5, 10, 1, 7, 1, 10, 0, 12, 10, 5, 4, 4, 9, 3, 7, 8, 5, 10,
            12, 0, 8, 11, 3, 11, 2, 4, 1, 12, 7, 8, 8, 12, 0, 3, 5, 6};
        int[] byTheLeast = {11, 4, 10, 7, 0, 3, 1, 10, 9, 5, 2, 8, 5, 8, 10, 10, 0, 3, 1, 5, 6, 8, 7, 6, 9, 2, 7, 11, 12, 0, 11, 12, 1, 3,
            12, 3, 8, 2, 4, 4, 0, 9, 6, 5, 7, 11, 1, 6, 4, 9, 12, 2};
        SpoonShort x = Check.fine(0, "kinds 13;alike 2;" + TWO);
        for (int k = 0; k < 52; k++) {
            Check.due("card " + k + " by 0", x.shuffled(0, 0, k), byNone[k]);
            Check.due("card " + k + " by -1", x.shuffled(0, -1, k), byMinusOne[k]);
            Check.due("card " + k + " by the least", x.shuffled(0, Integer.MIN_VALUE, k), byTheLeast[k]);
        }
    }

    // PERSON p is LAST, whoever is FIRST: each one has his spoon far later than the next one.
    private static String slowOnes(int people, int letters) {
        StringBuilder table = new StringBuilder("kinds 13;alike 2;letters " + letters + ";");
        for (int p = 0; p < people; p++) {
            table.append("person 1 1 0 ").append(20 - 4 * p).append(';');
        }
        return table.toString();
    }

    private static void evening(SpoonShort x, int seed, int wins, int rounds, int first) {
        Check.due("who WINS", x.evening(0, seed, 0), wins);
        Check.due("ROUNDS", x.evening(0, seed, 1), rounds);
        Check.due("OUT first", x.evening(0, seed, 2), first);
    }

    // "LAST has a LETTER; with LETTERS he is OUT. It ends when one is left, who WINS": by the first ROUND, of two with one.
    private static void eveningOfOneLetter() {
        for (int seed = 0; seed < 5; seed++) {
            SpoonShort x = Check.fine(0, slowOnes(2, 1));
            evening(x, seed, 1, 1, 0);
            Check.due("LETTERS of 0", x.evening(0, seed, 10), 1);
            Check.due("LETTERS of 1", x.evening(0, seed, 11), 0);
            Check.due("OUT by ROUND 0", x.evening(0, seed, 20), 0);
            Check.due("never OUT", x.evening(0, seed, 21), NONE);
            x = Check.fine(0, slowOnes(6, 1));
            evening(x, seed, 5, 5, 0);
            for (int p = 0; p < 6; p++) {
                Check.due("LETTERS of " + p, x.evening(0, seed, 10 + p), p < 5 ? 1 : 0);
                Check.due("OUT by ROUND", x.evening(0, seed, 20 + p), p < 5 ? p : NONE);
            }
        }
    }

    private static void eveningOfManyLetters() {
        for (int people = 2; people <= 6; people++) {
            for (int letters = 2; letters <= 9; letters++) {
                SpoonShort x = Check.fine(0, slowOnes(people, letters));
                evening(x, 3, people - 1, (people - 1) * letters, 0);
                for (int p = 0; p < people; p++) {
                    boolean out = p < people - 1;
                    Check.due("LETTERS of " + p, x.evening(0, 3, 10 + p), out ? letters : 0);
                    Check.due("OUT by ROUND", x.evening(0, 3, 20 + p), out ? (p + 1) * letters - 1 : NONE);
                }
            }
        }
        // Two who are alike: one has LETTERS then, the other one less than that many.
        for (int seed = 0; seed < 20; seed++) {
            SpoonShort x = Check.fine(0, "alike 2;letters 9;person 1 1 0 1;person 1 1 0 1;");
            int wins = x.evening(0, seed, 0);
            Check.due("one WINS", wins == 0 || wins == 1, true);
            int rounds = x.evening(0, seed, 1);
            Check.due("LETTERS of who is OUT", x.evening(0, seed, 11 - wins), 9);
            Check.due("LETTERS of who WINS", x.evening(0, seed, 10 + wins), rounds - 9);
            Check.due("OUT by the last ROUND", x.evening(0, seed, 21 - wins), rounds - 1);
            Check.due("OUT first", x.evening(0, seed, 2), 1 - wins);
        }
    }

    // "or by a ROUND that NEVER ENDS": the first one, or a later one.
    private static void eveningThatNeverEnds() {
        SpoonShort x = Check.fine(0, "kinds 13;" + TWO + "law 0 never;law 1 never;");
        evening(x, 1, NONE, 0, NONE);
        for (int p = 0; p < 2; p++) {
            Check.due("no LETTERS", x.evening(0, 1, 10 + p), 0);
            Check.due("nobody is OUT", x.evening(0, 1, 20 + p), NONE);
        }
        x = Check.fine(0, "kinds 4;copies 4;alike 3;letters 2;out 1;person 2 3 3 14;law 0 keep 3;jumpy 0;person 2 9 7 18;law 1 keep 0;"
            + "jumpy 1;person 2 9 2 12;law 2 never;");
        evening(x, 0, NONE, 2, 1);
        Check.due("one is OUT", x.evening(0, 0, 11), 2);
        Check.due("by ROUND 1", x.evening(0, 0, 21), 1);
        Check.due("another one is not", x.evening(0, 0, 20), NONE);
        // He is not there any more: the ROUND that NEVER ENDS is one of two.
        x = Check.fine(0, "kinds 5;copies 4;alike 4;letters 3;out 1;person 2 7 6 16;law 0 most;person 4 3 6 9;law 1 never;jumpy 1;"
            + "person 3 3 0 11;law 2 most;person 2 5 6 12;law 3 keep 1;jumpy 3;");
        evening(x, 0, NONE, 5, 0);
        int all = 0;
        for (int p = 0; p < 4; p++) {
            all += x.evening(0, 0, 10 + p);
        }
        Check.due("a LETTER by each ROUND that ended", all, 5);
        x = Check.fine(0, "kinds 5;copies 4;alike 3;letters 2;out 1;person 1 1 3 2;law 0 most;jumpy 0;person 2 4 6 2;law 1 aim 0;jumpy 1;"
            + "person 3 8 5 14;law 2 never;jumpy 2;");
        evening(x, 3, NONE, 3, 2);
    }

    // "-2: there is none such, or for another what."
    private static void answersOfAnEvening() {
        SpoonShort x = Check.fine(0, slowOnes(2, 1));
        Check.none("evening(0, 1, what)", -2, what -> what >= 0 && what <= 2 || what == 10 || what == 11 || what == 20 || what == 21,
            what -> x.evening(0, 1, what));
        Check.none("evening(at, 1, 0)", -2, Check.from(0, 0), at -> x.evening(at, 1, 0));
        SpoonShort y = Check.fine(0, slowOnes(6, 1));
        Check.none("of six: evening(0, 1, what)", -2, what -> what >= 0 && what <= 2 || what >= 10 && what <= 15
            || what >= 20 && what <= 25, what -> y.evening(0, 1, what));
    }

    // "LUCK, k 1 .. 20": one ROUND alone is that of the PACK as it is SHUFFLED.
    private static void luckOfOneRound() {
        String table = "kinds 6;alike 2;person 1 2 3 4;person 2 3 1 9;person 1 1 9 0;";
        for (int seed = -3; seed <= 3; seed++) {
            SpoonShort x = Check.fine(0, table);
            StringBuilder heap = new StringBuilder("cards");
            for (int k = 0; k < 24; k++) {
                heap.append(' ').append(x.shuffled(0, seed, k));
            }
            Check.due("the PACK", Check.tell(x, 1, heap + ";"), 0);
            int first = x.round(0, 0, 1);
            int last = x.round(0, 0, 2);
            for (int p = 0; p < 3; p++) {
                Check.due("FIRST by " + seed, x.luck(0, seed, 1, 10 + p), p == first ? 1 : 0);
                Check.due("LAST by " + seed, x.luck(0, seed, 1, 20 + p), p == last ? 1 : 0);
            }
            Check.due("NEVER ENDS by " + seed, x.luck(0, seed, 1, 0), first == NONE ? 1 : 0);
        }
    }

    // "k 1 .. 20, what 0 ...: NONE: there is none such, another k, or for another what."
    private static void luckOfRounds() {
        String table = "kinds 6;alike 2;person 1 2 3 4;person 2 3 1 9;person 1 1 9 0;";
        SpoonShort x = Check.fine(0, table);
        for (int k = 1; k <= 20; k++) {
            int first = x.luck(0, 5, k, 0);
            int last = first;
            for (int p = 0; p < 3; p++) {
                first += x.luck(0, 5, k, 10 + p);
                last += x.luck(0, 5, k, 20 + p);
            }
            Check.due("all ROUNDS have one who is FIRST, or NEVER END", first, k);
            Check.due("all ROUNDS have one who is LAST, or NEVER END", last, k);
        }
        Check.none("luck(0, 5, k, 0)", NONE, Check.from(1, 20), k -> x.luck(0, 5, k, 0));
        SpoonShort y = Check.fine(0, table);
        Check.none("luck(0, 5, 3, what)", NONE, what -> what == 0 || what >= 10 && what <= 12 || what >= 20 && what <= 22,
            what -> y.luck(0, 5, 3, what));
        Check.none("luck(at, 5, 3, 0)", NONE, Check.from(0, 0), at -> y.luck(at, 5, 3, 0));
        SpoonShort z = Check.fine(0, "kinds 13;" + TWO + "law 0 never;law 1 never;");
        for (int k = 1; k <= 20; k++) {
            Check.due("all NEVER END", z.luck(0, 1, k, 0), k);
            Check.due("nobody is FIRST", z.luck(0, 1, k, 10), 0);
            Check.due("nobody is LAST", z.luck(0, 1, k, 21), 0);
        }
    }

    // "each SHUFFLED anew (x goes on)": the second ROUND is the first one by x as it is behind the first.
    private static void seedGoesOn() {
        String table = "kinds 6;alike 2;person 1 2 3 4;person 2 3 1 9;person 1 1 9 0;";
        for (int seed = -5; seed <= 5; seed++) {
            int[] x = new int[21];
            x[1] = seed;
            for (int k = 2; k <= 20; k++) {
                x[k] = x[k - 1];
                for (int place = 23; place >= 1; place--) {
                    x[k] = x[k] * 1103515245 + 12345;
                }
            }
            SpoonShort y = Check.fine(0, table);
            for (int what : new int[] {0, 10, 11, 12, 20, 21, 22}) {
                int all = 0;
                for (int k = 1; k <= 20; k++) {
                    all += y.luck(0, x[k], 1, what);
                    Check.due("of the first " + k, y.luck(0, seed, k, what), all);
                }
            }
            // The one who is LAST by it is OUT; all others go on by x as it is then.
            SpoonShort z = Check.fine(0, table);
            int out = z.evening(0, seed, 2);
            for (int p = 0; p < 3; p++) {
                Check.due("OUT first", z.luck(0, seed, 1, 20 + p), p == out ? 1 : 0);
            }
            String[] people = {"person 1 2 3 4;", "person 2 3 1 9;", "person 1 1 9 0;"};
            people[out] = "";
            SpoonShort two = Check.fine(0, "kinds 6;alike 2;" + people[0] + people[1] + people[2]);
            int least = out == 0 ? 1 : 0;
            boolean leastIsLast = two.luck(0, x[2], 1, 20) == 1;
            Check.due("who WINS", z.evening(0, seed, 0), leastIsLast ? 3 - out - least : least);
        }
    }

    // "PACE, EYES 1 .. 9; QUICK 0 .. 9; FAR 0 .. 20; LAW 0 .. 3; places 0 to PEOPLE less 1"; "no such value".
    private static void otherwiseValues() {
        int[] least = {1, 1, 0, 0, 0, 0};
        int[] most = {9, 9, 9, 20, 3, 2};
        String table = "kinds 6;alike 2;person 1 2 3 4;person 2 3 1 9;person 1 1 9 0;";
        for (int sort = 0; sort < 6; sort++) {
            int of = sort;
            for (boolean first : new boolean[] {false, true}) {
                SpoonShort x = Check.fine(0, table);
                Check.none("otherwise of sort " + sort, NONE, value -> value == NONE || value >= least[of] && value <= most[of],
                    value -> x.otherwise(0, 5, 3, 1, of, value, first));
                Check.due("the least value", x.otherwise(0, 5, 3, 1, sort, least[sort], first) >= 0, true);
                Check.due("the greatest value", x.otherwise(0, 5, 3, 1, sort, most[sort], first) >= 0, true);
                int better = x.otherwise(0, 5, 3, 1, sort, NONE, first);
                Check.due("BETTER is a value", better >= least[sort] && better <= most[sort], true);
            }
        }
        for (int people = 2; people <= 6; people++) {
            SpoonShort x = Check.fine(0, "kinds 13;alike 2;" + Check.many(ONE, people));
            Check.due("the last place", x.otherwise(0, 5, 3, 0, 5, people - 1, true) >= 0, true);
            Check.due("none behind it", x.otherwise(0, 5, 3, 0, 5, people, true), NONE);
        }
    }

    // With what he has as it is, and where he sits, it is LUCK.
    private static void otherwiseAsTold() {
        String table = "kinds 5;alike 2;person 1 2 3 4;person 2 3 1 9;person 1 1 9 0;law 0 keep 1;law 1 aim 2;law 2 never;";
        for (int p = 0; p < 3; p++) {
            SpoonShort x = Check.fine(0, table);
            for (int sort = 0; sort < 6; sort++) {
                int value = sort == 5 ? p : x.person(0, p, sort);
                Check.due("as told: FIRST", x.otherwise(0, 8, 20, p, sort, value, true), x.luck(0, 8, 20, 10 + p));
                Check.due("as told: LAST", x.otherwise(0, 8, 20, p, sort, value, false), x.luck(0, 8, 20, 20 + p));
            }
        }
        for (int sort = 0; sort < 4; sort++) {
            int[] value = {9, 9, 9, 20};
            int[] other = {1, 2, 3, 4};
            other[sort] = value[sort];
            String changed = "person " + other[0] + " " + other[1] + " " + other[2] + " " + other[3] + ";";
            SpoonShort x = Check.fine(0, "kinds 5;alike 2;person 1 2 3 4;person 2 3 1 9;");
            SpoonShort y = Check.fine(0, "kinds 5;alike 2;" + changed + "person 2 3 1 9;");
            Check.due("as if told: FIRST", x.otherwise(0, 8, 20, 0, sort, value[sort], true), y.luck(0, 8, 20, 10));
            Check.due("as if told: LAST", x.otherwise(0, 8, 20, 0, sort, value[sort], false), y.luck(0, 8, 20, 20));
            Check.due("the TABLE is as it was", x.person(0, 0, sort), sort + 1);
        }
    }

    // "LAW (4; KIND as told, 0 without)"
    private static void otherwiseByLaw() {
        String people = "kinds 5;alike 3;person 1 2 3 4;person 2 3 1 9;";
        String[] laws = {"most", "aim ", "keep ", "never"};
        for (String told : new String[] {"", "law 1 aim 3;", "law 1 keep 3;", "law 1 never;", "law 1 aim 3;law 1 most;"}) {
            SpoonShort x = Check.fine(0, people + told);
            int kind = told.endsWith("3;") ? 3 : 0;
            for (int law = 0; law < 4; law++) {
                String line = "law 1 " + laws[law] + (law == 1 || law == 2 ? kind : "") + ";";
                SpoonShort y = Check.fine(0, people + line);
                Check.due(told + " as " + line, x.otherwise(0, 4, 20, 1, 4, law, true), y.luck(0, 4, 20, 11));
                Check.due(told + " as " + line, x.otherwise(0, 4, 20, 1, 4, law, false), y.luck(0, 4, 20, 21));
            }
        }
    }

    // "or sat at another place (5: all others in their order)"
    private static void otherwiseBySeat() {
        String[] four = {"person 1 2 3 4;", "person 2 3 1 9;", "person 1 1 9 0;", "person 3 9 0 20;"};
        for (int p = 0; p < 4; p++) {
            for (int place = 0; place < 4; place++) {
                StringBuilder table = new StringBuilder("kinds 6;alike 2;");
                int[] order = new int[4];
                Arrays.fill(order, NONE);
                order[place] = p;
                int at = 0;
                for (int other = 0; other < 4; other++) {
                    if (other != p) {
                        at += at == place ? 1 : 0;
                        order[at++] = other;
                    }
                }
                for (int who : order) {
                    table.append(four[who]);
                }
                SpoonShort x = Check.fine(0, "kinds 6;alike 2;" + four[0] + four[1] + four[2] + four[3]);
                SpoonShort y = Check.fine(0, table.toString());
                Check.due(p + " at " + place, x.otherwise(0, 6, 20, p, 5, place, true), y.luck(0, 6, 20, 10 + place));
                Check.due(p + " at " + place, x.otherwise(0, 6, 20, p, 5, place, false), y.luck(0, 6, 20, 20 + place));
            }
        }
    }

    // "BETTER: the value by which he is LAST seldomest ...; of several the least."
    private static void betterOfSeveralTheLeast() {
        // He is never LAST, or always, by whatever value.
        int[] least = {1, 1, 0, 0, 0, 0};
        SpoonShort x = Check.fine(0, "kinds 13;" + TWO + "law 0 never;law 1 never;");
        for (int sort : new int[] {0, 1, 2, 3, 5}) {
            Check.due("never LAST: BETTER of sort " + sort, x.otherwise(0, 1, 20, 1, sort, NONE, false), least[sort]);
        }
        x = Check.fine(0, "alike 2;person 9 9 9 20;person 1 1 0 0;");
        for (int sort : new int[] {0, 1, 2, 4, 5}) {
            Check.due("always LAST: BETTER of sort " + sort, x.otherwise(0, 1, 20, 0, sort, NONE, true), least[sort]);
        }
        String table = "kinds 5;alike 3;person 4 7 3 4;person 2 3 1 9;person 3 5 2 7;";
        for (int p = 0; p < 3; p++) {
            for (int sort = 0; sort < 6; sort++) {
                SpoonShort y = Check.fine(0, table);
                int best = NONE;
                int seldomest = 21;
                for (int value = least[sort]; value <= 20; value++) {
                    int many = y.otherwise(0, 2, 20, p, sort, value, false);
                    if (many != NONE && many < seldomest) {
                        seldomest = many;
                        best = value;
                    }
                }
                Check.due("BETTER of sort " + sort + " for " + p, y.otherwise(0, 2, 20, p, sort, NONE, false), best);
            }
        }
    }

    private static void betterAtTheEndOfTheValues() {
        SpoonShort x = Check.fine(0, "kinds 3;alike 3;person 2 3 9 18;law 0 keep 2;person 1 9 0 19;law 1 never;");
        Check.due("PACE 9", x.otherwise(0, 4, 14, 0, 0, NONE, false), 9);
        x = Check.fine(0, "kinds 5;alike 4;person 2 4 8 8;person 2 7 9 5;law 1 never;");
        Check.due("LAW 3", x.otherwise(0, 89, 11, 0, 4, NONE, false), 3);
        x = Check.fine(0, "kinds 4;copies 3;alike 2;person 2 9 4 18;person 4 6 2 15;law 1 keep 1;person 1 2 1 10;law 2 never;"
            + "person 5 2 3 8;law 3 aim 0;");
        Check.due("the last place", x.otherwise(0, 71, 2, 0, 5, NONE, false), 3);
        x = Check.fine(0, "kinds 5;alike 2;" + TWO);
        Check.due("EYES 1", x.otherwise(0, 1, 20, 1, 1, NONE, false), 1);
        Check.due("QUICK 0", x.otherwise(0, 1, 20, 1, 2, NONE, false), 0);
        Check.due("FAR 0", x.otherwise(0, 1, 20, 1, 3, NONE, false), 0);
    }

    // "NONE: there is none such (of any), or no such value."
    private static void otherwiseOfNone() {
        String table = "kinds 6;alike 2;person 1 2 3 4;person 2 3 1 9;person 1 1 9 0;";
        for (int value : new int[] {1, NONE}) {
            SpoonShort x = Check.fine(0, table);
            Check.none("otherwise(at, ..)", NONE, Check.from(0, 0), at -> x.otherwise(at, 5, 2, 1, 0, value, false));
            Check.none("otherwise(.., k, ..)", NONE, Check.from(1, 20), k -> x.otherwise(0, 5, k, 1, 0, value, false));
            SpoonShort y = Check.fine(0, table);
            Check.none("otherwise(.., person, ..)", NONE, Check.from(0, 2), p -> y.otherwise(0, 5, 2, p, 0, value, true));
            Check.none("otherwise(.., sort, ..)", NONE, Check.from(0, 5), sort -> y.otherwise(0, 5, 2, 1, sort, value, true));
        }
        SpoonShort z = Check.fine(0, table);
        Check.due("k 1", z.otherwise(0, 5, 1, 1, 0, 1, true) >= 0, true);
        Check.due("k 20", z.otherwise(0, 5, 20, 1, 0, 1, true) >= 0, true);
    }
}

import java.util.function.ToLongFunction;

/**
 * The boundary cases of promises 1 to 8, 10, 20, 32 and 35: for each sentence of the document that names one, a test that
 * bears its words.
 */
public final class EdgesOfTextsTest {
    private static final int NONE = SpoonShort.NONE;
    private static final String ONE = "person 1 1 0 0;";
    private static final String TWO = ONE + ONE;
    // With these a TABLE stands whatever else is told of it: its PACK is large enough.
    private static final String SMALL_HANDS = "alike 2;" + TWO;

    public static void main(String[] args) {
        newObject();
        atFirst();
        numbersOfATable();
        numbersOfPeople();
        whoIsTold();
        kindsThatLawsTell();
        peopleAtMostSix();
        cardsAtMost52();
        deedsAtMost40();
        numbersOfDeeds();
        heldAtMost4();
        goneAtMost48();
        framesAtMost10();
        tenthsOfFrames();
        whoIsToldTwiceInAFrame();
        tapeAtMost600();
        twentyBytesEach();
        endCuts();
        tokensAsLongAsTheyGo();
        bytesThatAreNoTokens();
        numbersOfOneOrTwoDigits();
        emptyTexts();
        textsThatBreakOff();
        wordsOfOtherSorts();
        wordsWithAnotherLetter();
        linesWithTooFewOrTooManyNumbers();
        faultOneGoesAheadOfAll();
        theFirstFaultByPlace();
        ofOnePlaceTheLeast();
        faultFourAtTheEnd();
        laterOnesStrike();
        furtherOnes();
        twoOfASort();
        inThePlaceOfOne();
        noSuchPlaceOrSort();
        aFaultTellsNothing();
        faultOfTheLatestText();
        answersOfTables();
        answersOfPeople();
        answersOfCards();
        answersOfDeeds();
        answersOfHands();
        answersOfFrames();
        answersOfCounts();
        Check.finish();
    }

    // "No TABLES, HEAPS, BOOKS, HANDS, FILMS; no images."
    private static void newObject() {
        SpoonShort x = new SpoonShort();
        for (int sort = 0; sort < 5; sort++) {
            Check.due("a new object's count(" + sort + ")", x.count(sort), 0);
        }
        for (int k = 0; k < 3; k++) {
            Check.due("a new object's again(" + k + ")", x.again(k), false);
        }
        Check.due("a new object's tape is empty", x.end(1), NONE);
        Check.due("a new object's FAULT", x.fault(0), 0);
        Check.due("a new object's place", x.fault(1), NONE);
        for (int at = 0; at < 2; at++) {
            Check.due("no TABLE", x.table(at, 0), NONE);
            Check.due("no PEOPLE", x.person(at, 0, 0), -2);
            Check.due("no HEAP", x.card(at, NONE), -2);
            Check.due("no BOOK", x.deed(at, NONE, 0), -2);
            Check.due("no HAND", x.hand(at, 0), -2);
            Check.due("no FILM", x.frame(at, NONE, 0), -2);
        }
    }

    // "(4 at first)", "(4)", "(4)", "(1)", "(3)"; "MOST (0; at first)".
    private static void atFirst() {
        SpoonShort x = Check.fine(0, TWO);
        int[] first = {4, 4, 4, 1, 3, 2};
        for (int what = 0; what < 6; what++) {
            Check.due("at first: table(0, " + what + ")", x.table(0, what), first[what]);
        }
        for (int p = 0; p < 2; p++) {
            Check.due("LAW at first", x.person(0, p, 4), 0);
            Check.due("KIND at first", x.person(0, p, 5), NONE);
            Check.due("JUMPY at first", x.person(0, p, 6), 0);
        }
    }

    /** A NUMBER that can be is told, each other one is FAULT 2 at its place. */
    private static void range(int sort, String ahead, String behind, int least, int most, ToLongFunction<SpoonShort> told) {
        for (int number = 0; number <= 99; number++) {
            String text = ahead + number + behind;
            if (number < least || number > most) {
                Check.refused(sort, text, 2, ahead.length());
            } else {
                Check.due(text, told.applyAsLong(Check.fine(sort, text)), number);
            }
        }
    }

    // "KINDS of cards, 2 .. 13", "COPIES of each, 1 .. 4", "ALIKE, 2 .. 4", "LETTERS, 1 .. 9", "OUTSTRETCHED, 0 .. 9 tenths".
    private static void numbersOfATable() {
        range(0, SMALL_HANDS + "kinds ", ";", 2, 13, x -> x.table(0, 0));
        range(0, SMALL_HANDS + "kinds 13;copies ", ";", 1, 4, x -> x.table(0, 1));
        range(0, TWO + "alike ", ";", 2, 4, x -> x.table(0, 2));
        range(0, TWO + "letters ", ";", 1, 9, x -> x.table(0, 3));
        range(0, TWO + "out ", ";", 0, 9, x -> x.table(0, 4));
    }

    // "a PACE, EYES, 1 .. 9 each, QUICK, 0 .. 9, FAR, 0 .. 20 tenths".
    private static void numbersOfPeople() {
        range(0, ONE + "person ", " 1 0 0;", 1, 9, x -> x.person(0, 1, 0));
        range(0, ONE + "person 1 ", " 0 0;", 1, 9, x -> x.person(0, 1, 1));
        range(0, ONE + "person 1 1 ", " 0;", 0, 9, x -> x.person(0, 1, 2));
        range(0, ONE + "person 1 1 0 ", ";", 0, 20, x -> x.person(0, 1, 3));
    }

    // "PEOPLE are 0 .. 5": who is told of by a law, by jumpy.
    private static void whoIsTold() {
        String six = "alike 2;" + Check.many(ONE, 6);
        for (int who = 0; who <= 99; who++) {
            if (who > 5) {
                Check.refused(0, six + "law " + who + " most;", 2, six.length() + 4);
                Check.refused(0, six + "jumpy " + who + ";", 2, six.length() + 6);
            } else {
                SpoonShort x = Check.fine(0, six + "law " + who + " never;jumpy " + who + ";");
                for (int p = 0; p < 6; p++) {
                    Check.due("LAW of " + p, x.person(0, p, 4), p == who ? 3 : 0);
                    Check.due("JUMPY " + p, x.person(0, p, 6), p == who ? 1 : 0);
                }
            }
        }
    }

    // "a KIND, 0 .. 12" of aim, keep.
    private static void kindsThatLawsTell() {
        range(0, SMALL_HANDS + "kinds 13;law 0 aim ", ";", 0, 12, x -> x.person(0, 0, 5));
        range(0, SMALL_HANDS + "kinds 13;law 1 keep ", ";", 0, 12, x -> x.person(0, 1, 5));
    }

    // "PEOPLE, at most 6, from 0 on"; "3 a 7th of PEOPLE ..., at its first token".
    private static void peopleAtMostSix() {
        for (int people = 2; people <= 6; people++) {
            SpoonShort x = Check.fine(0, "alike 2;" + Check.many(ONE, people));
            Check.due("PEOPLE", x.table(0, 5), people);
            Check.due("the last of them", x.person(0, people - 1, 0), 1);
            Check.due("none behind him", x.person(0, people, 0), -2);
        }
        Check.refused(0, "alike 2;" + Check.many(ONE, 7), 3, 8 + 90);
        Check.refused(0, "alike 2;" + Check.many(ONE, 6) + " \n" + Check.many(ONE, 2), 3, 8 + 90 + 2);
    }

    // "CARDS, at most 52, from 0 on ...: KINDS, 0 .. 12"; "a 53rd CARD, ... at it".
    private static void cardsAtMost52() {
        range(1, "cards 3 ", ";", 0, 12, x -> x.card(0, 1));
        range(1, "cards ", " 4;", 0, 12, x -> x.card(0, 0));
        for (int cards = 1; cards <= 60; cards++) {
            String text = "cards" + Check.many(" 7", cards) + ";";
            if (cards > 52) {
                Check.refused(1, text, 3, 5 + 52 * 2 + 1);
            } else {
                SpoonShort x = Check.fine(1, text);
                Check.due("CARDS", x.card(0, NONE), cards);
                Check.due("the last one", x.card(0, cards - 1), 7);
                Check.due("none behind it", x.card(0, cards), -2);
            }
        }
        String full = "cards" + Check.many(" 7", 51) + ";";
        Check.due("52 by two lines", Check.fine(1, full + "cards 7;").card(0, NONE), 52);
        Check.refused(1, full + "cards 7 7;", 3, full.length() + 8);
        Check.refused(1, full + "cards 7;cards 7;", 3, full.length() + 8 + 6);
    }

    // "DEEDS, at most 40, from 0 on"; "a 41st DEED, ... at its first token".
    private static void deedsAtMost40() {
        String[] deeds = {"take 0;", "hand 0 0;", "reach 0;", "feint 0;", "pass 1;"};
        for (String deed : deeds) {
            String text = Check.many("pass 9;", 39) + deed;
            SpoonShort x = Check.fine(2, text);
            Check.due("DEEDS", x.deed(0, NONE, 0), 40);
            Check.due("none behind them", x.deed(0, 40, 0), -2);
            Check.refused(2, text + "  " + deed, 3, text.length() + 2);
            Check.refused(2, text + deed + deed, 3, text.length());
        }
        SpoonShort y = Check.fine(2, Check.many("pass 9;", 39));
        Check.due("39 DEEDS", y.deed(0, NONE, 0), 39);
        Check.due("the last of them", y.deed(0, 38, 1), 9);
    }

    // "(take, reach, feint: who; hand: who, a KIND; pass: tenths, 1 .. 9)".
    private static void numbersOfDeeds() {
        range(2, "take ", ";", 0, 5, x -> x.deed(0, 0, 1));
        range(2, "reach ", ";", 0, 5, x -> x.deed(0, 0, 1));
        range(2, "feint ", ";", 0, 5, x -> x.deed(0, 0, 1));
        range(2, "hand ", " 12;", 0, 5, x -> x.deed(0, 0, 1));
        range(2, "hand 5 ", ";", 0, 12, x -> x.deed(0, 0, 2));
        range(2, "pass ", ";", 1, 9, x -> x.deed(0, 0, 1));
    }

    // "cards that one HOLDS, at most 4"; "a 5th that one HOLDS, ... at it".
    private static void heldAtMost4() {
        range(3, "hold 1 ", ";", 0, 12, x -> x.hand(0, 11));
        for (int held = 1; held <= 8; held++) {
            String text = "hold" + Check.many(" 3", held) + ";";
            if (held > 4) {
                Check.refused(3, text, 3, 4 + 4 * 2 + 1);
            } else {
                Check.due("HOLDS", Check.fine(3, text).hand(0, 0), held);
            }
        }
        Check.refused(3, "hold 1 2;hold 3;hold 4;gone 5;hold 6;", 3, 35);
        Check.due("four by lines", Check.fine(3, "hold 1 2;gone 5;hold 3;hold 4;").hand(0, 0), 4);
    }

    // "those that are GONE by, at most 48"; "a 49th GONE, at it".
    private static void goneAtMost48() {
        range(3, "gone ", ";", 0, 12, x -> x.hand(0, 100));
        for (int gone = 44; gone <= 52; gone++) {
            String text = "hold 1;gone" + Check.many(" 3", gone) + ";";
            if (gone > 48) {
                Check.refused(3, text, 3, 11 + 48 * 2 + 1);
            } else {
                SpoonShort x = Check.fine(3, text);
                Check.due("GONE", x.hand(0, 1), gone);
                Check.due("the last one", x.hand(0, 100 + gone - 1), 3);
                Check.due("none behind it", x.hand(0, 100 + gone), -2);
            }
        }
        String full = "gone" + Check.many(" 3", 48) + ";";
        Check.due("those that he HOLDS are others", Check.fine(3, full + "hold 1 1 1 1;").hand(0, 0), 4);
        Check.refused(3, full + "hold 1;gone 2;", 3, full.length() + 7 + 5);
    }

    // "FRAMES, at most 10, from 0 on"; "an 11th FRAME, at its first token".
    private static void framesAtMost10() {
        StringBuilder film = new StringBuilder();
        for (int frames = 1; frames <= 10; frames++) {
            film.append("frame ").append(10 + frames).append(" 5;");
            SpoonShort x = Check.fine(4, film.toString());
            Check.due("FRAMES", x.frame(0, NONE, 0), frames);
            Check.due("the last one's tenth", x.frame(0, frames - 1, 0), 10 + frames);
            Check.due("the last one's PEOPLE", x.frame(0, frames - 1, 1), 32);
            Check.due("none behind it", x.frame(0, frames, 0), -2);
        }
        Check.refused(4, film + "frame 30;", 3, film.length());
        Check.refused(4, film + " frame 30;frame 31;", 3, film.length() + 1);
    }

    // "a tenth, 0 .. 99, later than the one ahead"; "a tenth that is not later than that of the FRAME ahead as told there".
    private static void tenthsOfFrames() {
        range(4, "frame ", ";", 0, 99, x -> x.frame(0, 0, 0));
        range(4, "frame 0;frame ", ";", 1, 99, x -> x.frame(0, 1, 0));
        range(4, "frame 41;frame ", ";", 42, 99, x -> x.frame(0, 1, 0));
        range(4, "frame 41;frame 50;frame ", " 1;", 51, 99, x -> x.frame(0, 2, 0));
        range(4, "frame 99 0;frame ", ";", 100, 100, x -> NONE);
    }

    // "who": 0 .. 5; "one who is told twice in a FRAME".
    private static void whoIsToldTwiceInAFrame() {
        for (int who = 0; who <= 99; who++) {
            if (who > 5) {
                Check.refused(4, "frame 7 " + who + ";", 2, 8);
                Check.refused(4, "frame 7 0 1 " + who + ";", 2, 12);
            } else {
                Check.due("who " + who, Check.fine(4, "frame 7 " + who + ";").frame(0, 0, 1), 1 << who);
                Check.refused(4, "frame 7 " + who + " " + who + ";", 2, 10);
            }
        }
        Check.due("all six", Check.fine(4, "frame 7 5 3 1 0 2 4;").frame(0, 0, 1), 63);
        Check.refused(4, "frame 7 5 3 1 0 2 4 5;", 2, 20);
        Check.refused(4, "frame 7 5 3 05;", 2, 12);
        Check.due("once in each of two", Check.fine(4, "frame 7 5;frame 8 5;").frame(0, 1, 1), 32);
    }

    // "THE TAPE has at most 600 bytes"; "NONE, and nothing comes, if there would be more than 600".
    private static void tapeAtMost600() {
        SpoonShort x = new SpoonShort();
        for (int i = 1; i <= 30; i++) {
            Check.due("feed " + i, x.feed(0, 0, 0, 0, 0), 20 * i);
        }
        Check.due("feed 31", x.feed(0, 0, 0, 0, 0), NONE);
        Check.due("nothing came", x.end(601), NONE);
        Check.due("all 600 are there", x.end(600), 600);
        for (int n = 599; n > 580; n -= 3) {
            Check.due("end", x.end(n), n);
            Check.due("feed to " + (n + 20), x.feed(0, 0, 0, 0, 0), NONE);
            Check.due("nothing came", x.end(n + 1), NONE);
            Check.due("as it was", x.end(n), n);
        }
        Check.due("end", x.end(580), 580);
        Check.due("feed to 600", x.feed(0, 0, 0, 0, 0), 600);
        // A refused call leaves the bytes that are there as they are.
        Check.tape(x, "cards 1 2;" + Check.many(" ", 580) + "cards 3;  ");
        Check.due("refused", x.feed(-1, -1, -1, -1, -1), NONE);
        Check.due("a text of 600 bytes", x.text(1, NONE), 0);
        Check.due("its last CARD", x.card(0, 2), 3);
        Check.refused(1, "cards" + Check.many(" ", 595), 1, 600);
        Check.refused(0, Check.many("\n", 600), 4, 600);
    }

    // "twenty bytes come behind it, of each number the highest first: how many it has".
    private static void twentyBytesEach() {
        SpoonShort x = new SpoonShort();
        Check.due("feed", x.feed(0x63617264, 0x73203120, 0x32203320, 0x34203520, 0x3620370a), 20);
        Check.due("feed", x.feed(0x63617264, 0x73203920, 0x3b202020, 0x20202020, 0x20202020), 40);
        Check.due("a word where there can be none", x.text(1, NONE), NONE);
        Check.due("it comes behind the twentieth byte", x.fault(1), 20);
        x = new SpoonShort();
        Check.due("feed", x.feed(0x63617264, 0x73203120, 0x32203320, 0x34203520, 0x3620373b), 20);
        Check.due("text", x.text(1, NONE), 0);
        for (int k = 0; k < 7; k++) {
            Check.due("CARD " + k, x.card(0, k), k + 1);
        }
        // A byte above 127 stays one: with its sign alone it would be another one.
        for (int b : new int[] {0, 9, 128, 160, 255}) {
            x = new SpoonShort();
            x.feed(0x63617264, 0x73000020 | b << 16 | b << 8, 0, 0, 0);
            Check.due("text", x.text(1, NONE), NONE);
            Check.due("byte " + b, x.fault(1), 5);
        }
        // The highest bit of a number is its first byte's.
        x = new SpoonShort();
        x.feed(0xa0202020, 0x20202020, 0x20202020, 0x20202020, 0x20202020);
        Check.due("text", x.text(1, NONE), NONE);
        Check.due("the first byte", x.fault(1), 0);
    }

    // "The tape has its first n bytes alone: n. NONE if it has not so many, or n is below 0."
    private static void endCuts() {
        SpoonShort x = new SpoonShort();
        Check.due("an empty tape", x.end(0), 0);
        Check.none("end of an empty tape", NONE, n -> n == 0, x::end);
        Check.tape(x, "cards 1 2 3;");
        Check.none("end", NONE, Check.from(0, 12), x::end);
        Check.due("as many as there are", x.end(12), 12);
        Check.due("one less", x.end(11), 11);
        Check.due("it is gone", x.end(12), NONE);
        Check.due("none", x.end(0), 0);
        Check.due("all are gone", x.end(1), NONE);
        Check.tape(x, "cards 1 2 3;");
        x.end(8);
        x.feed(0x3b202020, 0x20202020, 0x20202020, 0x20202020, 0x20202020);
        Check.due("text", x.text(1, NONE), 0);
        Check.due("what was cut is gone for good", x.card(0, NONE), 1);
    }

    // "TOKENS, as long as they go, blanks (10, 32) between: words, rows of letters a .. z; NUMBERS, 1 or 2 digits; ; one byte."
    private static void tokensAsLongAsTheyGo() {
        SpoonShort x = Check.fine(0, "kinds3;alike2;person1 1 0 0;person1 1 0 0;law0aim2;law 1\nkeep\n0\n;\njumpy1;");
        Check.due("kinds3", x.table(0, 0), 3);
        Check.due("law0aim2", x.person(0, 0, 5), 2);
        Check.due("law 1 keep 0", x.person(0, 1, 5), 0);
        Check.due("jumpy1", x.person(0, 1, 6), 1);
        x = Check.fine(1, " \n\n  cards 1 \n 2;\n");
        Check.due("blanks ahead and behind", x.card(0, NONE), 2);
        // 12 is one NUMBER, 1 2 are two.
        Check.due("12", Check.fine(1, "cards 12;").card(0, NONE), 1);
        Check.due("1 2", Check.fine(1, "cards 1 2;").card(0, NONE), 2);
        Check.due("1\\n2", Check.fine(1, "cards 1\n2;").card(0, NONE), 2);
        // A blank parts a word, and no word is the first part of a longer one.
        Check.refused(1, "car ds 1;", 1, 0);
        Check.refused(1, "cardscards 1;", 1, 0);
        Check.refused(1, "cards 1;car", 1, 8);
        Check.refused(0, "law 0 nevermost;", 1, 6);
        Check.refused(0, TWO + "law 0 mos;", 1, TWO.length() + 6);
    }

    private static void bytesThatAreNoTokens() {
        for (int b = 0; b < 256; b++) {
            boolean token = b == 10 || b == 32 || b == ';' || b >= '0' && b <= '9' || b >= 'a' && b <= 'z';
            if (!token) {
                Check.refused(1, "cards 1" + (char) b + ";", 1, 7);
                Check.refused(1, (char) b + "cards 1;", 1, 0);
                Check.refused(1, "cards 1;" + (char) b, 1, 8);
            }
        }
        // Those next to them are tokens: 'a', 'z', '0', '9'.
        Check.refused(1, "cards a;", 1, 6);
        Check.refused(1, "cards z1;", 1, 6);
        Check.refused(1, "cardsz 1;", 1, 0);
        Check.refused(1, "acards 1;", 1, 0);
        Check.due("0 and 9", Check.fine(1, "cards 0 9 09 10;").card(0, 3), 10);
    }

    // "NUMBERS, 1 or 2 digits"; "(a longer row of digits is no token)".
    private static void numbersOfOneOrTwoDigits() {
        Check.due("one digit", Check.fine(1, "cards 7;").card(0, 0), 7);
        Check.due("two digits", Check.fine(1, "cards 07;").card(0, 0), 7);
        Check.due("00", Check.fine(1, "cards 00;").card(0, 0), 0);
        Check.refused(1, "cards 007;", 1, 6);
        Check.refused(1, "cards 1 000;", 1, 8);
        Check.refused(1, "cards 1 2 123456789012345;", 1, 10);
        Check.refused(1, "cards 13 100;", 1, 9);
        Check.refused(4, "frame 099;", 1, 6);
    }

    // "{...}": none of its lines are a text as well; but a TABLE without PEOPLE is FAULT 4.
    private static void emptyTexts() {
        for (String text : new String[] {"", " ", "\n", " \n \n"}) {
            Check.due("no CARDS", Check.fine(1, text).card(0, NONE), 0);
            Check.due("no DEEDS", Check.fine(2, text).deed(0, NONE, 0), 0);
            Check.due("HOLDS none", Check.fine(3, text).hand(0, 0), 0);
            Check.due("none GONE", Check.fine(3, text).hand(0, 1), 0);
            Check.due("no FRAMES", Check.fine(4, text).frame(0, NONE, 0), 0);
            Check.refused(0, text, 4, text.length());
        }
        Check.due("a FRAME of nobody", Check.fine(4, "frame 7;").frame(0, 0, 1), 0);
    }

    // "1 the first byte or token with which no text goes on", at "the end's" place too.
    private static void textsThatBreakOff() {
        String[] tables = {"kinds", "kinds 3", "person", "person 1", "person 1 1 0", "person 1 1 0 0", "law", "law 0", "law 0 aim",
            "law 0 aim 1", "law 0 most", "jumpy", "jumpy 0"};
        for (String text : tables) {
            Check.refused(0, TWO + text, 1, TWO.length() + text.length());
            Check.refused(0, TWO + text + " \n ", 1, TWO.length() + text.length() + 3);
        }
        String[][] others = {{"cards", "cards 1", "cards 1;cards"}, {"take", "take 0", "hand 0", "hand 0 1", "pass", "feint", "reach 1"},
            {"hold", "hold 1", "gone", "gone 1 2"}, {"frame", "frame 1", "frame 1 2 3"}};
        for (int sort = 1; sort < 5; sort++) {
            for (String text : others[sort - 1]) {
                Check.refused(sort, text, 1, text.length());
                Check.refused(sort, text + "\n", 1, text.length() + 1);
            }
        }
    }

    private static void wordsOfOtherSorts() {
        String[][] lines = {{"kinds 3;", "copies 3;", "alike 3;", "letters 3;", "out 3;", "jumpy 1;", "person 1 1 0 0;", "law 1 most;"},
            {"cards 1;"}, {"take 1;", "hand 1 1;", "reach 1;", "feint 1;", "pass 1;"}, {"hold 1;", "gone 1;"}, {"frame 1;"}};
        String[] ahead = {TWO, "cards 1;", "take 1;", "hold 1;", "frame 1;"};
        for (int sort = 0; sort < 5; sort++) {
            for (int other = 0; other < 5; other++) {
                for (String line : lines[other]) {
                    if (other != sort) {
                        Check.refused(sort, ahead[sort] + line, 1, ahead[sort].length());
                    }
                }
            }
        }
        for (String law : new String[] {"most", "aim 1", "keep 1", "never"}) {
            Check.refused(0, TWO + law + ";", 1, TWO.length());
        }
    }

    private static void wordsWithAnotherLetter() {
        String[][] lines = {{"kinds 3;", "copies 3;", "alike 3;", "letters 3;", "out 3;", "jumpy 1;", "person 1 1 0 0;", "law 1 most;"},
            {"cards 1;"}, {"take 1;", "hand 1 1;", "reach 1;", "feint 1;", "pass 1;"}, {"hold 1;", "gone 1;"}, {"frame 1;"}};
        for (int sort = 0; sort < 5; sort++) {
            for (String line : lines[sort]) {
                String text = sort == 0 ? TWO : "";
                Check.fine(sort, text + line);
                anotherLetter(sort, text, line.substring(0, line.indexOf(' ')), line.substring(line.indexOf(' ')));
            }
        }
        anotherLetter(0, TWO + "law 0 ", "most", ";");
        anotherLetter(0, TWO + "law 0 ", "never", ";");
        anotherLetter(0, TWO + "law 0 ", "aim", " 1;");
        anotherLetter(0, TWO + "law 0 ", "keep", " 1;");
    }

    /** With a letter struck, put in or changed it is no word. */
    private static void anotherLetter(int sort, String ahead, String word, String behind) {
        for (int i = 0; i < word.length(); i++) {
            String start = ahead + word.substring(0, i);
            String end = word.substring(i + 1) + behind;
            Check.refused(sort, start + 'x' + end, 1, ahead.length());
            Check.refused(sort, start + end, 1, ahead.length());
            Check.refused(sort, start + word.charAt(i) + word.charAt(i) + end, 1, ahead.length());
        }
    }

    private static void linesWithTooFewOrTooManyNumbers() {
        String[] none = {"kinds", "copies", "alike", "letters", "out", "jumpy", "person", "law"};
        for (String word : none) {
            Check.refused(0, word + " ;", 1, word.length() + 1);
        }
        String[] more = {"kinds 4", "copies 4", "alike 4", "letters 4", "out 4", "jumpy 1", "person 1 1 0 0", "law 0 most", "law 0 never",
            "law 0 aim 1", "law 0 keep 1"};
        for (String line : more) {
            Check.refused(0, TWO + line + " 1;", 1, TWO.length() + line.length() + 1);
            Check.refused(0, TWO + line + " kinds;", 1, TWO.length() + line.length() + 1);
        }
        Check.refused(0, "person 1 1 0 ;", 1, 13);
        Check.refused(0, "person 1 1 ;", 1, 11);
        Check.refused(0, "person 1 ;", 1, 9);
        Check.refused(0, "law 0 1;", 1, 6);
        Check.refused(0, "law 0 ;", 1, 6);
        Check.refused(0, "law 0 aim ;", 1, 10);
        Check.refused(0, "law 0 keep ;", 1, 11);
        Check.refused(1, "cards ;", 1, 6);
        Check.refused(3, "hold ;", 1, 5);
        Check.refused(3, "gone ;", 1, 5);
        Check.refused(4, "frame ;", 1, 6);
        for (String word : new String[] {"take", "reach", "feint", "pass"}) {
            Check.refused(2, word + " ;", 1, word.length() + 1);
            Check.refused(2, word + " 1 1;", 1, word.length() + 3);
        }
        Check.refused(2, "hand ;", 1, 5);
        Check.refused(2, "hand 1 ;", 1, 7);
        Check.refused(2, "hand 1 1 1;", 1, 9);
    }

    // FAULT 1; "If there is none, the first by place ...". So one behind all others goes ahead of them.
    private static void faultOneGoesAheadOfAll() {
        Check.refused(0, "kinds 1;person 0 0 10 21;law 6 aim 13;#", 1, 38);
        Check.refused(0, Check.many(ONE, 7) + "kinds", 1, 7 * 15 + 5);
        Check.refused(0, "kinds 2;cards", 1, 8);
        Check.refused(1, "cards 13" + Check.many(" 0", 60) + "; 100", 1, 8 + 120 + 2);
        Check.refused(2, "take 6;" + Check.many("take 0;", 41) + "take", 1, 42 * 7 + 4);
        Check.refused(3, "hold 13 1 1 1 1;hold;", 1, 20);
        Check.refused(4, "frame 5;frame 5 0 0 6;;", 1, 22);
        // The first of its own kind by place.
        Check.refused(1, "cards ; cards ;#", 1, 6);
        Check.refused(1, "# cards ;", 1, 0);
    }

    // "the first by place": of FAULTS 2 and 3.
    private static void theFirstFaultByPlace() {
        Check.refused(0, "kinds 14;copies 5;alike 1;", 2, 6);
        Check.refused(0, "kinds 13;copies 5;alike 1;", 2, 16);
        Check.refused(0, "kinds 13;copies 4;alike 1;", 2, 24);
        Check.refused(0, "person 1 10 10 21;", 2, 9);
        Check.refused(0, "person 1 1 10 21;", 2, 11);
        Check.refused(0, Check.many(ONE, 5) + "person 0 1 0 0;" + ONE, 2, 75 + 7);
        Check.refused(0, Check.many(ONE, 6) + "person 0 1 0 0;", 3, 90);
        Check.refused(0, Check.many(ONE, 7) + "kinds 1;", 3, 90);
        Check.refused(0, "kinds 1;" + Check.many(ONE, 7), 2, 6);
        Check.refused(0, "law 6 aim 13;", 2, 4);
        Check.refused(0, "law 5 aim 13;", 2, 10);
        Check.refused(1, "cards" + Check.many(" 1", 53) + " 13;", 3, 5 + 52 * 2 + 1);
        Check.refused(1, "cards 13" + Check.many(" 1", 53) + ";", 2, 6);
        Check.refused(2, Check.many("take 0;", 40) + "hand 6 13;", 3, 280);
        Check.refused(2, Check.many("take 0;", 39) + "hand 6 13;take 0;", 2, 273 + 5);
        Check.refused(3, "hold 0 0 0 0 0 13;gone 13;", 3, 13);
        Check.refused(3, "hold 0 0 0 0;gone 13;hold 0;", 2, 18);
        Check.refused(4, "frame 5 6;frame 5;", 2, 8);
        Check.refused(4, "frame 5;frame 5 1 1;", 2, 14);
        Check.refused(4, "frame 5;frame 6 1 1 6;", 2, 18);
        StringBuilder film = new StringBuilder();
        for (int k = 0; k < 10; k++) {
            film.append("frame ").append(k).append(';');
        }
        Check.refused(4, film + "frame 9 6 6;", 3, 80);
        Check.refused(4, "frame 0 6;" + film, 2, 8);
    }

    // "of one place the least": a CARD that can't be and is one too many.
    private static void ofOnePlaceTheLeast() {
        Check.refused(1, "cards" + Check.many(" 1", 52) + " 13;", 2, 5 + 52 * 2 + 1);
        Check.refused(3, "hold 1 1 1 1 13;", 2, 13);
        Check.refused(3, "gone" + Check.many(" 1", 48) + " 13;", 2, 4 + 48 * 2 + 1);
    }

    // "If there is none of these, at the end's place: 4 of a TABLE ..."
    private static void faultFourAtTheEnd() {
        // "one of PEOPLE that was told of (law, jumpy) and is not there"
        for (int people = 2; people <= 6; people++) {
            String table = "alike 2;" + Check.many(ONE, people);
            for (int who = 0; who < 6; who++) {
                for (String line : new String[] {"law " + who + " never;", "law " + who + " keep 0;", "jumpy " + who + ";"}) {
                    if (who < people) {
                        Check.fine(0, line + table);
                        Check.fine(0, table + line);
                    } else {
                        Check.refused(0, table + line + " ", 4, table.length() + line.length() + 1);
                        Check.refused(0, line + table, 4, table.length() + line.length());
                    }
                }
            }
        }
        Check.refused(0, TWO + "law 2 never;law 2 most;law 0 most;", 4, 64);
        // "a KIND that was told of by a law, struck or not, and is not there"
        for (int kind = 0; kind <= 12; kind++) {
            for (String law : new String[] {"aim ", "keep "}) {
                String lines = "kinds 7;law 1 " + law + kind + ";";
                String struck = lines + "law 1 most;";
                String later = "kinds 13;" + SMALL_HANDS + lines;
                if (kind < 7) {
                    Check.fine(0, SMALL_HANDS + lines);
                    Check.fine(0, SMALL_HANDS + struck);
                    Check.fine(0, later);
                } else {
                    Check.refused(0, SMALL_HANDS + lines, 4, SMALL_HANDS.length() + lines.length());
                    Check.refused(0, SMALL_HANDS + struck, 4, SMALL_HANDS.length() + struck.length());
                    Check.refused(0, later, 4, later.length());
                }
            }
        }
        Check.fine(0, SMALL_HANDS + "law 0 aim 12;kinds 13;");
        // "fewer than 2 PEOPLE"
        Check.refused(0, "alike 2;", 4, 8);
        Check.refused(0, "alike 2;" + ONE, 4, 23);
        Check.fine(0, "alike 2;" + TWO);
        packs();
        Check.refused(0, ONE + "law 6 most;", 2, 19);
    }

    // "a PACK of no more cards than all of them hold"
    private static void packs() {
        for (int kinds = 2; kinds <= 13; kinds++) {
            for (int copies = 1; copies <= 4; copies++) {
                for (int alike = 2; alike <= 4; alike++) {
                    String head = "kinds " + kinds + ";copies " + copies + ";alike " + alike + ";";
                    for (int people = 2; people <= 6; people++) {
                        String text = head + Check.many(ONE, people);
                        if (kinds * copies > people * alike) {
                            Check.fine(0, text);
                        } else {
                            Check.refused(0, text, 4, text.length());
                        }
                    }
                }
            }
        }
    }

    // "Later ones strike": the earlier ones, even those with which the TABLE would not stand.
    private static void laterOnesStrike() {
        SpoonShort x = Check.fine(0, "kinds 2;kinds 12;copies 1;copies 3;alike 4;alike 2;letters 9;letters 2;out 9;out 0;" + TWO
            + "law 0 aim 9;law 0 keep 3;law 1 keep 9;law 1 never;");
        int[] want = {12, 3, 2, 2, 0, 2};
        for (int what = 0; what < 6; what++) {
            Check.due("the later one: " + what, x.table(0, what), want[what]);
        }
        Check.due("the later LAW", x.person(0, 0, 4), 2);
        Check.due("the later KIND", x.person(0, 0, 5), 3);
        Check.due("the later LAW", x.person(0, 1, 4), 3);
        Check.due("it has no KIND", x.person(0, 1, 5), NONE);
        Check.refused(0, "kinds 12;" + TWO + "kinds 2;", 4, 47);
        Check.due("LAW back at MOST", Check.fine(0, TWO + "law 0 never;law 0 most;").person(0, 0, 4), 0);
    }

    // "but PEOPLE, JUMPY ones, CARDS, DEEDS, cards of a HAND, FRAMES, which are further ones."
    private static void furtherOnes() {
        SpoonShort x = Check.fine(0, "alike 2;person 2 3 4 5;person 6 7 8 9;person 1 2 3 4;jumpy 2;jumpy 0;jumpy 2;");
        Check.due("PEOPLE", x.table(0, 5), 3);
        Check.due("the first one's PACE", x.person(0, 0, 0), 2);
        Check.due("the second one's FAR", x.person(0, 1, 3), 9);
        Check.due("the third one's EYES", x.person(0, 2, 1), 2);
        for (int p = 0; p < 3; p++) {
            Check.due("JUMPY " + p, x.person(0, p, 6), p == 1 ? 0 : 1);
        }
        x = Check.fine(1, "cards 5;cards 4 3;");
        Check.due("CARDS", x.card(0, NONE), 3);
        Check.due("the uppermost first", x.card(0, 0), 5);
        x = Check.fine(2, "pass 5;take 4;");
        Check.due("DEEDS", x.deed(0, NONE, 0), 2);
        Check.due("the first DEED", x.deed(0, 0, 1), 5);
        x = Check.fine(3, "hold 5;gone 4;hold 3;gone 2 1;");
        Check.due("HOLDS", x.hand(0, 0), 2);
        Check.due("GONE", x.hand(0, 1), 3);
        Check.due("the second that he HOLDS", x.hand(0, 11), 3);
        Check.due("the third GONE", x.hand(0, 102), 1);
        x = Check.fine(4, "frame 5 1;frame 6 2;");
        Check.due("FRAMES", x.frame(0, NONE, 0), 2);
        Check.due("the first FRAME", x.frame(0, 0, 1), 2);
    }

    private static final String[] ANY = {TWO, "cards 1;", "take 1;", "hold 1;", "frame 1;"};
    private static final String[] OTHER = {ONE + TWO, "cards 2 2 2;", "pass 1;pass 1;pass 1;", "hold 2 2 2;",
        "frame 2;frame 3;frame 4;"};

    /** How many there are of what OTHER has three of. */
    private static int size(SpoonShort x, int sort, int at) {
        switch (sort) {
            case 0: return x.table(at, 5);
            case 1: return x.card(at, NONE);
            case 2: return x.deed(at, NONE, 0);
            case 3: return x.hand(at, 0);
            default: return x.frame(at, NONE, 0);
        }
    }

    // "at most 2 (sort 0) ... at most 2 (4), from 0 on"; "-2: ... there are as many as may be".
    private static void twoOfASort() {
        SpoonShort x = new SpoonShort();
        for (int sort = 0; sort < 5; sort++) {
            String other = sort == 0 ? "alike 2;" + OTHER[0] : OTHER[sort];
            Check.due("the first of sort " + sort, Check.tell(x, sort, ANY[sort]), 0);
            Check.due("one is there", x.count(sort), 1);
            Check.due("the second of sort " + sort, Check.tell(x, sort, other), 1);
            Check.due("two are there", x.count(sort), 2);
            Check.due("the third of sort " + sort, Check.tell(x, sort, ANY[sort]), -2);
            Check.due("the tape is empty then, too", x.end(1), NONE);
            Check.due("no text is read", x.fault(0), 0);
            Check.due("not even one with a FAULT", Check.tell(x, sort, "#"), -2);
            Check.due("FAULT 0", x.fault(0), 0);
            Check.due("no place", x.fault(1), NONE);
            Check.due("two are there still", x.count(sort), 2);
            Check.due("the first as it was", size(x, sort, 0), sort == 0 ? 2 : 1);
            Check.due("the second as it was", size(x, sort, 1), 3);
        }
    }

    // "a further one (at NONE), or in the place of one: its number".
    private static void inThePlaceOfOne() {
        for (int sort = 0; sort < 5; sort++) {
            SpoonShort x = new SpoonShort();
            String other = sort == 0 ? "alike 2;" + OTHER[0] : OTHER[sort];
            Check.due("the first", Check.tell(x, sort, ANY[sort]), 0);
            Check.due("in its place", Check.tell(x, sort, 0, other), 0);
            Check.due("it is another one", size(x, sort, 0), 3);
            Check.due("one is there", x.count(sort), 1);
            Check.due("the second", Check.tell(x, sort, NONE, other), 1);
            Check.due("in its place", Check.tell(x, sort, 1, ANY[sort]), 1);
            Check.due("the first as it was", size(x, sort, 0), 3);
            Check.due("the second", size(x, sort, 1), sort == 0 ? 2 : 1);
            Check.due("two are there", x.count(sort), 2);
            Check.due("the tape is empty then", x.end(1), NONE);
        }
        // Nothing is left of the one that was there.
        SpoonShort x = Check.fine(0, "alike 2;letters 7;out 7;person 9 9 9 9;person 9 9 9 9;person 9 9 9 9;law 0 aim 1;law 1 never;jumpy 0;");
        Check.due("in its place", Check.tell(x, 0, 0, TWO), 0);
        int[] want = {4, 4, 4, 1, 3, 2};
        for (int what = 0; what < 6; what++) {
            Check.due("as at first: " + what, x.table(0, what), want[what]);
        }
        Check.due("as at first: LAW", x.person(0, 0, 4), 0);
        Check.due("as at first: KIND", x.person(0, 0, 5), NONE);
        Check.due("as at first: JUMPY", x.person(0, 0, 6), 0);
        Check.due("as at first: LAW", x.person(0, 1, 4), 0);
        Check.due("a third one is not there", x.person(0, 2, 0), -2);
    }

    // "-2: there is none such, ... or no such sort (the tape is empty then, too; no text is read, FAULT 0)".
    private static void noSuchPlaceOrSort() {
        for (int sort = 0; sort < 5; sort++) {
            for (int there = 0; there <= 2; there++) {
                SpoonShort x = new SpoonShort();
                for (int i = 0; i < there; i++) {
                    Check.tell(x, sort, ANY[sort]);
                }
                for (int at : new int[] {Integer.MIN_VALUE, -3, -2, 0, 1, 2, 3, 4, Integer.MAX_VALUE}) {
                    if (at >= 0 && at < there) {
                        continue;
                    }
                    Check.due("a FAULT ahead", Check.tell(x, 4, 0, "#"), sort == 4 && there > 0 ? NONE : -2);
                    Check.due("sort " + sort + " at " + at + " of " + there, Check.tell(x, sort, at, ANY[sort]), -2);
                    Check.due("the tape is empty then, too", x.end(1), NONE);
                    Check.due("FAULT 0", x.fault(0), 0);
                    Check.due("without place", x.fault(1), NONE);
                }
                Check.due("as many as there were", x.count(sort), there);
            }
        }
        SpoonShort y = new SpoonShort();
        for (int sort : new int[] {Integer.MIN_VALUE, -2, -1, 5, 6, 100, Integer.MAX_VALUE}) {
            for (int at = -2; at <= 2; at++) {
                Check.due("a FAULT ahead", Check.tell(y, 1, "#"), NONE);
                Check.due("no sort " + sort, Check.tell(y, sort, at, "cards 1;"), -2);
                Check.due("the tape is empty then, too", y.end(1), NONE);
                Check.due("FAULT 0", y.fault(0), 0);
                Check.due("without place", y.fault(1), NONE);
            }
        }
        for (int sort = 0; sort < 5; sort++) {
            Check.due("nothing came of them", y.count(sort), 0);
        }
    }

    // "NONE: a FAULT": no text is told then, and the tape is taken all the same.
    private static void aFaultTellsNothing() {
        String[] faults = {"kinds 3;" + TWO + "letters 0;", "cards 2 2 13;", "pass 1;pass 0;", "hold 2 13;", "frame 2;frame 2;"};
        for (int sort = 0; sort < 5; sort++) {
            SpoonShort x = new SpoonShort();
            Check.due("a FAULT", Check.tell(x, sort, faults[sort]), NONE);
            Check.due("none is there", x.count(sort), 0);
            Check.tell(x, sort, ANY[sort]);
            Check.due("in the place of one", Check.tell(x, sort, 0, faults[sort]), NONE);
            Check.due("a further one", Check.tell(x, sort, NONE, faults[sort]), NONE);
            Check.due("the tape is empty then", x.end(1), NONE);
            Check.due("one is there", x.count(sort), 1);
            Check.due("as it was", size(x, sort, 0), sort == 0 ? 2 : 1);
            Check.due("KINDS as they were", x.table(0, 0), sort == 0 ? 4 : NONE);
        }
    }

    // "Of the latest text(), what 0: the FAULT, 0 without, 1: its place, NONE without. NONE for another what."
    private static void faultOfTheLatestText() {
        SpoonShort x = new SpoonShort();
        Check.none("fault", NONE, Check.from(0, 1), x::fault);
        Check.due("place of a new object's", x.fault(1), NONE);
        Check.faulty(x, 1, "cards 1 13;", 2, 8);
        Check.none("fault", NONE, Check.from(0, 1), x::fault);
        Check.faulty(x, 1, "#", 1, 0);
        Check.due("other calls leave it", x.end(0), 0);
        Check.due("FAULT", x.fault(0), 1);
        Check.due("without FAULT", Check.tell(x, 1, "cards 1;"), 0);
        Check.due("FAULT", x.fault(0), 0);
        Check.due("place", x.fault(1), NONE);
        Check.faulty(x, 0, "", 4, 0);
    }

    // "NONE: there is none such, or for another what."
    private static void answersOfTables() {
        SpoonShort x = Check.fine(0, TWO);
        Check.none("table(0, what)", NONE, Check.from(0, 5), what -> x.table(0, what));
        Check.none("table(at, 0)", NONE, Check.from(0, 0), at -> x.table(at, 0));
        SpoonShort y = Check.fine(0, TWO);
        Check.tell(y, 0, TWO + "letters 7;");
        Check.none("table(at, 3) of two", NONE, Check.from(0, 1), at -> y.table(at, 3));
        Check.due("the second one", y.table(1, 3), 7);
    }

    // "-2: there is none such (of either), or for another what."
    private static void answersOfPeople() {
        SpoonShort x = Check.fine(0, TWO);
        Check.none("person(0, 1, what)", -2, Check.from(0, 6), what -> x.person(0, 1, what));
        Check.none("person(0, p, 5)", -2, Check.from(0, 1), p -> x.person(0, p, 5));
        SpoonShort y = Check.fine(0, "alike 2;" + Check.many("person 3 1 0 0;", 6));
        Check.none("person(0, p, 0)", -2, Check.from(0, 5), p -> y.person(0, p, 0));
        Check.none("person(at, 0, 0)", -2, Check.from(0, 0), at -> y.person(at, 0, 0));
    }

    // "how many CARDS (k NONE), or CARD k. -2: there is none such (of either)."
    private static void answersOfCards() {
        SpoonShort x = Check.fine(1, "cards 4 5 6;");
        Check.due("how many", x.card(0, NONE), 3);
        Check.none("card(0, k)", -2, Check.from(-1, 2), k -> x.card(0, k));
        Check.none("card(at, NONE)", -2, Check.from(0, 0), at -> x.card(at, NONE));
        SpoonShort y = Check.fine(1, "");
        Check.due("how many of none", y.card(0, NONE), 0);
        Check.none("a CARD of none", -2, k -> k == NONE, k -> y.card(0, k));
        SpoonShort z = Check.fine(1, "cards" + Check.many(" 12", 52) + ";");
        Check.none("card(0, k) of 52", -2, Check.from(-1, 51), k -> z.card(0, k));
        Check.none("card(at, 0)", -2, Check.from(0, 0), at -> z.card(at, 0));
    }

    // "its numbers (NONE without). -2: there is none such (of either), or for another what."
    private static void answersOfDeeds() {
        SpoonShort x = Check.fine(2, "take 3;hand 4 11;reach 5;feint 0;pass 9;");
        int[][] want = {{0, 3, NONE}, {1, 4, 11}, {2, 5, NONE}, {3, 0, NONE}, {4, 9, NONE}};
        for (int k = 0; k < 5; k++) {
            for (int what = 0; what < 3; what++) {
                Check.due("deed(0, " + k + ", " + what + ")", x.deed(0, k, what), want[k][what]);
            }
        }
        Check.none("deed(0, NONE, what)", -2, Check.from(0, 0), what -> x.deed(0, NONE, what));
        SpoonShort y = Check.fine(2, "take 3;hand 4 11;");
        Check.none("deed(0, 1, what)", -2, Check.from(0, 2), what -> y.deed(0, 1, what));
        Check.none("deed(0, k, 0)", -2, Check.from(-1, 1), k -> y.deed(0, k, 0));
        SpoonShort z = Check.fine(2, "take 3;hand 4 11;");
        Check.none("deed(at, 0, 0)", -2, Check.from(0, 0), at -> z.deed(at, 0, 0));
        Check.none("deed(at, NONE, 0)", -2, Check.from(0, 0), at -> z.deed(at, NONE, 0));
        Check.due("no DEEDS", Check.fine(2, "").deed(0, 0, 0), -2);
    }

    // "10 + i: the i-th he HOLDS, 100 + i: the i-th GONE. -2: there is none such, or for another what."
    private static void answersOfHands() {
        SpoonShort x = Check.fine(3, "hold 4 5;gone 6 7 8;");
        Check.none("hand(0, what)", -2, what -> what == 0 || what == 1 || what == 10 || what == 11 || what >= 100 && what <= 102,
            what -> x.hand(0, what));
        int[][] want = {{0, 2}, {1, 3}, {10, 4}, {11, 5}, {100, 6}, {101, 7}, {102, 8}};
        for (int[] row : want) {
            Check.due("hand(0, " + row[0] + ")", x.hand(0, row[0]), row[1]);
        }
        Check.none("hand(at, 0)", -2, Check.from(0, 0), at -> x.hand(at, 0));
        SpoonShort y = Check.fine(3, "hold 4 5 6 7;gone" + Check.many(" 1", 48) + ";");
        Check.none("of a full HAND", -2, what -> what == 0 || what == 1 || what >= 10 && what <= 13 || what >= 100 && what <= 147,
            what -> y.hand(0, what));
        SpoonShort z = Check.fine(3, "");
        Check.none("of an empty HAND", -2, Check.from(0, 1), what -> z.hand(0, what));
    }

    // "How many FRAMES (k NONE, what 0) ... -2: there is none such (of either), or for another what."
    private static void answersOfFrames() {
        SpoonShort x = Check.fine(4, "frame 7 0;frame 9 3;");
        Check.none("frame(0, NONE, what)", -2, Check.from(0, 0), what -> x.frame(0, NONE, what));
        Check.none("frame(0, 1, what)", -2, Check.from(0, 1), what -> x.frame(0, 1, what));
        SpoonShort y = Check.fine(4, "frame 7 0;frame 9 3;");
        Check.none("frame(0, k, 0)", -2, Check.from(-1, 1), k -> y.frame(0, k, 0));
        Check.none("frame(at, 0, 0)", -2, Check.from(0, 0), at -> y.frame(at, 0, 0));
        SpoonShort z = Check.fine(4, "");
        Check.none("frame(0, k, 1) of none", -2, k -> false, k -> z.frame(0, k, 1));
        Check.none("frame(at, NONE, 0)", -2, Check.from(0, 0), at -> z.frame(at, NONE, 0));
    }

    // "How many there are of a sort. -2 for another one."
    private static void answersOfCounts() {
        SpoonShort x = new SpoonShort();
        Check.none("count", -2, Check.from(0, 4), x::count);
        for (int sort = 0; sort < 5; sort++) {
            Check.tell(x, sort, ANY[sort]);
            for (int other = 0; other < 5; other++) {
                Check.due("count(" + other + ")", x.count(other), other <= sort ? 1 : 0);
            }
        }
    }
}

import java.util.Collections;
import java.util.List;
import java.util.Random;

/** Any call with any arguments in any state: nothing may ever throw, and the same calls give the same answers. */
public final class AnyInputTest {
    private static final int[] EDGES = {-3, -2, -1, 0, 1, 2, 3, 4, 5, 6, 7, 9, 10, 12, 13, 19, 20, 21, 30, 40, 52, 59, 60, 99, 100,
        243, 600, 601, 2000, 2001, Integer.MAX_VALUE, Integer.MIN_VALUE, Integer.MAX_VALUE - 1};
    private static final String[] WORDS = {"kinds", "copies", "alike", "letters", "out", "jumpy", "person", "law", "most", "aim",
        "keep", "never", "cards", "take", "hand", "reach", "feint", "pass", "hold", "gone", "frame", ";", ";", "0", "1", "2", "3", "7",
        "99", "100", "#", "\n", "x"};
    private static final String[][] LINES = {
        {"kinds 3;", "copies 3;", "alike 2;", "letters 2;", "out 0;", "person 1 1 0 0;", "person 3 2 1 20;", "person 9 9 9 0;",
            "law 0 aim 1;", "law 1 keep 0;", "law 1 never;", "law 0 never;", "jumpy 0;", "jumpy 1;", "person 2 3 4 5;", "person 1 1 1 1;"},
        {"cards 0 1 2 3;", "cards 1 2 0 1;", "cards 0;", "cards 0 0 1 2 3;", "cards 2 2 1 1;", "cards 12 11 10 9 8;"},
        {"take 0;", "hand 0 0;", "hand 0 1;", "reach 0;", "reach 1;", "feint 0;", "pass 1;", "take 1;", "hand 1 1;", "reach 2;"},
        {"hold 0 1;", "hold 1 1;", "gone 0;", "gone 1 2;", "hold 3;"},
        {"frame 0;", "frame 5 1;", "frame 6 1 0;", "frame 7 0 1 2 3 4 5;", "frame 98;", "frame 99 5;"},
    };

    // What later calls answer is free.
    private static final int MOST_CALLS = 512;
    private static int used;

    public static void main(String[] args) {
        long calls = 0;
        for (int seed = 0; seed < 400; seed++) {
            SpoonShort x = new SpoonShort();
            SpoonShort y = new SpoonShort();
            Random r = new Random(seed);
            Random s = new Random(seed);
            used = 0;
            if (seed % 4 != 0) {
                tellFive(x);
                tellFive(y);
                used = 60;
            }
            while (used < MOST_CALLS - 32) {
                long got = call(x, r);
                int before = used;
                Check.due("run " + seed + " call " + before, got, call(y, s));
                used = before;
            }
            calls += used;
        }
        System.out.println(calls + " calls");
        askingChangesNothing();
        Check.finish();
    }

    /** What is asked is answered as by a new object that has been told the same and was asked nothing yet. */
    private static void askingChangesNothing() {
        for (int seed = 0; seed < 60; seed++) {
            SpoonShort x = new SpoonShort();
            tellFive(x);
            tellMore(x, new Random(seed));
            Random r = new Random(1000 + seed);
            for (int i = 0; i < 300; i++) {
                int call = 15 + r.nextInt(33);
                if (call == 27 || call == 28) {
                    continue;
                }
                SpoonShort y = new SpoonShort();
                tellFive(y);
                tellMore(y, new Random(seed));
                long numbers = r.nextLong();
                Random a = new Random(numbers);
                Random b = new Random(numbers);
                long got = call < 30 ? told(x, a, call) : asked(x, a, call);
                Check.due("of a used object, call " + call, got, call < 30 ? told(y, b, call) : asked(y, b, call));
            }
        }
    }

    private static void tellMore(SpoonShort x, Random r) {
        Naive t = Naive.byChance(r, 4, 4);
        Check.due("table", Check.tell(x, 0, t.text()), 1);
        List<Integer> pack = t.pack();
        Collections.shuffle(pack, r);
        Check.due("heap", Check.tell(x, 1, Naive.cardsText("cards", pack)), 1);
        Check.due("hand", Check.tell(x, 3, Naive.cardsText("hold", pack.subList(0, t.alike))), 1);
        Check.due("book", Check.tell(x, 2, "reach 1;pass 2;take 0;reach 0;feint 1;reach 1;"), 1);
        Check.due("film", Check.tell(x, 4, "frame 0 1;frame 9;frame 12 1 0;"), 1);
    }

    private static void tellFive(SpoonShort x) {
        String table = "kinds 4;alike 2;letters 2;person 1 2 3 4;person 2 1 9 20;person 3 3 0 0;law 0 keep 1;law 2 never;jumpy 2;";
        Check.due("table", Check.tell(x, 0, table), 0);
        Check.due("heap", Check.tell(x, 1, "cards 0 1 2 3 0 1 2 3 3 2;"), 0);
        Check.due("book", Check.tell(x, 2, "take 0;hand 0 2;take 1;hand 1 3;pass 2;reach 0;feint 1;take 2;"), 0);
        Check.due("hand", Check.tell(x, 3, "hold 0 1;gone 1 2 2;"), 0);
        Check.due("film", Check.tell(x, 4, "frame 3;frame 9 0 1;frame 12 1 2;"), 0);
    }

    private static int any(Random r) {
        int from = r.nextInt(4);
        return from < 2 ? r.nextInt(4) - 1 : from == 2 ? EDGES[r.nextInt(EDGES.length)] : r.nextInt(r.nextBoolean() ? 40 : 3000);
    }

    private static int one(Random r) {
        return r.nextInt(20) == 0 ? any(r) : r.nextInt(2);
    }

    private static String text(Random r, int sort) {
        StringBuilder b = new StringBuilder();
        int many = r.nextInt(14);
        for (int i = 0; i < many && b.length() < 500; i++) {
            if (sort >= 0 && sort < 5 && r.nextInt(40) > 0) {
                b.append(LINES[sort][r.nextInt(LINES[sort].length)]);
            } else {
                b.append(WORDS[r.nextInt(WORDS.length)]).append(' ');
            }
        }
        return b.toString();
    }

    private static long call(SpoonShort x, Random r) {
        int what = r.nextInt(44) + 4;
        used++;
        if (what < 12) {
            int sort = r.nextInt(30) == 0 ? any(r) : r.nextInt(5);
            String text = text(r, sort);
            Check.tape(x, text);
            used += 3 + text.length() / 20;
            return x.text(sort, r.nextBoolean() ? SpoonShort.NONE : one(r));
        }
        return what < 30 ? told(x, r, what) : asked(x, r, what);
    }

    private static long told(SpoonShort x, Random r, int what) {
        switch (what) {
            case 12: return x.feed(any(r), any(r), r.nextInt(), r.nextInt(), r.nextInt());
            case 13: return x.end(any(r));
            case 14: return x.text(any(r), any(r));
            case 15: return x.fault(any(r));
            case 16: return x.table(one(r), any(r));
            case 17: return x.person(one(r), any(r), any(r));
            case 18: return x.card(one(r), any(r));
            case 19: return x.fits(one(r), one(r));
            case 20: return x.deed(one(r), any(r), any(r));
            case 21: return x.stop(one(r), one(r), one(r));
            case 22: return x.state(one(r), one(r), one(r), any(r), any(r));
            case 23: return x.holds(one(r), one(r), one(r), any(r), any(r), any(r));
            case 24: return x.hand(one(r), any(r));
            case 25: return x.frame(one(r), any(r), any(r));
            case 26: return x.count(any(r));
            case 27: return x.image(any(r)) ? 1 : 0;
            case 28: return x.again(any(r)) ? 1 : 0;
            default: return x.shuffled(one(r), r.nextInt(), any(r));
        }
    }

    private static long asked(SpoonShort x, Random r, int what) {
        switch (what) {
            case 30: return x.round(one(r), one(r), any(r));
            case 31: return x.behind(one(r), one(r), any(r), any(r), any(r));
            case 32: return x.evening(one(r), r.nextInt(), any(r));
            case 33: return x.luck(one(r), r.nextInt(), any(r), any(r));
            case 34: return x.otherwise(one(r), r.nextInt(), r.nextInt(4), any(r), any(r), any(r), r.nextBoolean());
            case 35: return x.unseen(one(r), one(r), any(r));
            case 36: return x.within(one(r), one(r), any(r), r.nextBoolean());
            case 37: return x.kept(one(r), one(r), any(r), any(r));
            case 38: return x.alone(one(r), one(r), any(r), any(r), r.nextBoolean());
            case 39: return x.soonest(one(r), one(r), one(r), r.nextBoolean());
            case 40: return x.keeps(one(r), one(r), any(r), any(r), r.nextBoolean());
            case 41: return x.looks(one(r), any(r), any(r), any(r));
            case 42: return x.often(one(r), any(r), any(r));
            case 43: return x.rests(one(r), any(r), any(r));
            case 44: return x.even(one(r), any(r));
            case 45: return x.feint(one(r), any(r), any(r));
            case 46: return x.film(one(r), one(r), any(r));
            default: return x.pulled(one(r), one(r), any(r), r.nextBoolean());
        }
    }
}

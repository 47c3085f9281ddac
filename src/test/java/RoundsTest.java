import java.util.ArrayList;
import java.util.Collections;
import java.util.List;
import java.util.Random;

/** Promises 9, 14 to 19: heaps that fit, rounds by laws, shuffled packs, evenings, luck, otherwise. */
public final class RoundsTest {
    private static final int NONE = SpoonShort.NONE;

    public static void main(String[] args) {
        fits();
        neverEnds();
        alikeAtOnce();
        aRound();
        lawsOneByOne();
        refilled();
        byChance();
        thatNeverEnd();
        shuffles();
        evenings();
        luck();
        otherwise();
        Check.finish();
    }

    private static SpoonShort with(String table, String heap) {
        SpoonShort x = Check.fine(0, table);
        Check.due("heap " + heap, Check.tell(x, 1, heap), 0);
        return x;
    }

    private static void fits() {
        String table = "kinds 3;copies 3;alike 2;person 1 1 0 0;person 1 1 0 0;";
        String[] fit = {"cards 0 0 0 1 1;", "cards 0 0 0 1 1 1 2 2 2;", "cards 2 1 0 2 1 0;"};
        for (String heap : fit) {
            Check.due(heap, with(table, heap).fits(0, 0), 1);
        }
        String[] not = {"cards 0 0 1 1;", "cards 0 0 0 0 1 1;", "cards 0 1 2 3 1;", "", "cards 0 1 2 0 1 2 12;"};
        for (String heap : not) {
            SpoonShort x = with(table, heap);
            Check.due(heap, x.fits(0, 0), 0);
            Check.due("round " + heap, x.round(0, 0, 0), -2);
            Check.due("round 1 " + heap, x.round(0, 0, 10), -2);
            Check.due("behind " + heap, x.behind(0, 0, 0, 0, NONE), -2);
        }
        SpoonShort x = with(table, fit[0]);
        Check.due("table 1", x.fits(1, 0), NONE);
        Check.due("heap 1", x.fits(0, 1), NONE);
        Check.due("table -1", x.fits(-1, 0), NONE);
        Check.due("heap -1", x.fits(0, -1), NONE);
    }

    private static void neverEnds() {
        String table = "kinds 2;alike 2;person 1 1 0 0;person 1 1 0 0;law 0 never;law 1 never;";
        SpoonShort x = with(table, "cards 0 1 0 1 0 1;");
        int[] want = {NONE, NONE, NONE, 4000, 0};
        for (int what = 0; what < 5; what++) {
            Check.due("never ends " + what, x.round(0, 0, what), want[what]);
        }
        Check.due("spoon", x.round(0, 0, 10), NONE);
        Check.due("handed on", x.round(0, 0, 21), 2000);
        Check.due("no PERSON 2", x.round(0, 0, 12), -2);
        Check.due("no PERSON 2", x.round(0, 0, 22), -2);
        Check.due("what 5", x.round(0, 0, 5), -2);
        Check.due("what 9", x.round(0, 0, 9), -2);
        Check.due("what -1", x.round(0, 0, -1), -2);
        Check.due("what max", x.round(0, 0, Integer.MAX_VALUE), -2);
        Check.due("heap 1", x.round(0, 1, 0), -2);
        Check.due("table 1", x.round(1, 0, 0), -2);
        Check.due("behind 2000", x.behind(0, 0, 2000, 0, 0), 1);
        Check.due("behind 2001", x.behind(0, 0, 2001, 0, 0), -2);
        Check.due("behind -1", x.behind(0, 0, -1, 0, 0), -2);
        Check.due("kind 2", x.behind(0, 0, 0, 0, 2), -2);
        Check.due("kind -2", x.behind(0, 0, 0, 0, -2), -2);
        Check.due("person 2", x.behind(0, 0, 0, 2, 0), -2);
        Check.due("person -1", x.behind(0, 0, 0, -1, 0), -2);
        // Two copies can't be three alike ones: no law mends it.
        x = with("copies 2;kinds 5;alike 3;person 1 1 0 0;person 1 1 0 0;law 0 never;", "cards 0 1 2 0 1 2 3 4;");
        Check.due("none mends", x.round(0, 0, 4), NONE);
        Check.due("none ends", x.round(0, 0, 0), NONE);
    }

    private static void alikeAtOnce() {
        String table = "kinds 2;alike 2;person 1 1 3 4;person 1 1 0 0;";
        SpoonShort x = with(table, "cards 0 0 1 1 0;");
        int[] want = {0, 0, 0, 0, NONE};
        for (int what = 0; what < 5; what++) {
            Check.due("both have them at once " + what, x.round(0, 0, what), want[what]);
        }
        Check.due("his spoon", x.round(0, 0, 10), 7);
        Check.due("the other's", x.round(0, 0, 11), 1);
        x = with(table, "cards 0 1 1 1 0;");
        Check.due("PERSON 1 has", x.round(0, 0, 1), 1);
        Check.due("LAST 0", x.round(0, 0, 2), 0);
        Check.due("spoon 0", x.round(0, 0, 10), 8);
        Check.due("spoon 1", x.round(0, 0, 11), 0);
        // Of several the greatest is LAST.
        x = with("kinds 3;alike 2;person 1 2 1 0;person 1 1 2 0;person 1 9 3 1;", "cards 0 1 0 1 2 2 1;");
        Check.due("spoon 0", x.round(0, 0, 10), 3);
        Check.due("spoon 1", x.round(0, 0, 11), 3);
        Check.due("spoon 2", x.round(0, 0, 12), 4);
        Check.due("LAST", x.round(0, 0, 2), 2);
        x = with("kinds 3;alike 2;person 1 2 2 0;person 1 1 3 0;person 1 9 3 0;", "cards 0 1 0 1 2 2 1;");
        Check.due("LAST of two", x.round(0, 0, 2), 1);
    }

    private static void aRound() {
        // PERSON 0 takes 2 twice, hands on 2 of 0 1 2 each time; PERSON 1 hands on 0 of 0 2 2: FIRST.
        SpoonShort x = with("kinds 3;alike 2;person 2 1 0 1;person 4 3 2 0;", "cards 0 1 0 2 2 2;");
        Check.due("tenth", x.round(0, 0, 0), 4);
        Check.due("FIRST", x.round(0, 0, 1), 1);
        Check.due("LAST", x.round(0, 0, 2), 1);
        Check.due("handed on", x.round(0, 0, 3), 3);
        Check.due("MENDS", x.round(0, 0, 4), NONE);
        Check.due("spoon 0", x.round(0, 0, 10), 6);
        Check.due("spoon 1", x.round(0, 0, 11), 6);
        Check.due("handed by 0", x.round(0, 0, 20), 2);
        Check.due("handed by 1", x.round(0, 0, 21), 1);
        Check.due("behind 0: heap", x.behind(0, 0, 0, 0, NONE), 2);
        Check.due("behind 1: heap", x.behind(0, 0, 1, 0, NONE), 2);
        Check.due("behind 2: heap", x.behind(0, 0, 2, 0, NONE), 1);
        Check.due("behind 2: waits", x.behind(0, 0, 2, 1, NONE), 1);
        Check.due("behind 3: kind 2", x.behind(0, 0, 3, 1, 2), 1);
        Check.due("behind 4: waits", x.behind(0, 0, 4, 1, NONE), 1);
        Check.due("behind 4: kind 2", x.behind(0, 0, 4, 1, 2), 2);
        Check.due("behind 4: kind 0", x.behind(0, 0, 4, 1, 0), 0);
        Check.due("behind 4: PERSON 0's 1", x.behind(0, 0, 4, 0, 1), 1);
        Check.due("as at its end", x.behind(0, 0, 2000, 1, NONE), 1);
    }

    private static void lawsOneByOne() {
        String people = "kinds 4;alike 3;person 1 1 0 0;person 9 1 0 0;";
        String heap = "cards 0 2 3 1 2 3 2 1 0 1;";
        // PERSON 0 holds 0 2 3 and takes 2: of 0, 3 he has one each.
        Check.due("most", with(people, heap).behind(0, 0, 1, 0, 3), 0);
        Check.due("aim 3", with(people + "law 0 aim 3;", heap).behind(0, 0, 1, 0, 2), 1);
        Check.due("aim 1", with(people + "law 0 aim 1;", heap).behind(0, 0, 1, 0, 3), 0);
        Check.due("keep 3", with(people + "law 0 keep 3;", heap).behind(0, 0, 1, 0, 0), 0);
        Check.due("keep 3 keeps 2", with(people + "law 0 keep 3;", heap).behind(0, 0, 1, 0, 2), 2);
        Check.due("never", with(people + "law 0 never;", heap).behind(0, 0, 1, 0, 2), 1);
        // He has no other KIND than his.
        SpoonShort x = with("kinds 2;alike 2;copies 4;person 1 1 0 0;person 1 1 0 0;law 0 aim 1;law 1 keep 0;",
            "cards 0 1 0 1 0 1 1;");
        Check.due("aim gets it", x.round(0, 0, 1), 1);
        Check.due("keep 0 at tenth 1", x.round(0, 0, 0), 1);
    }

    private static void refilled() {
        // One card alone goes round: the HEAP is empty, AWAY comes back when PERSON 0 would take.
        SpoonShort x = with("kinds 3;alike 2;person 1 1 0 0;person 1 1 0 0;law 0 never;law 1 never;", "cards 0 1 0 1 2;");
        Check.due("heap behind 1", x.behind(0, 0, 1, 0, NONE), 0);
        Check.due("heap behind 2", x.behind(0, 0, 2, 0, NONE), 0);
        Check.due("handed on", x.round(0, 0, 3), 4000);
        // PERSON 1 comes each third tenth alone: 0 can't take without a card.
        x = with("kinds 3;alike 2;person 1 1 0 0;person 3 1 0 0;law 0 never;law 1 never;", "cards 0 1 0 1 2;");
        Check.due("handed on by 0", x.round(0, 0, 20), 667);
        Check.due("handed on by 1", x.round(0, 0, 21), 666);
    }

    private static void byChance() {
        Random r = new Random(5);
        for (int i = 0; i < 400; i++) {
            Naive t = Naive.byChance(r, i % 2 == 0 ? 4 : 13, 6);
            List<Integer> heap = t.pack();
            Collections.shuffle(heap, r);
            int least = t.people.size() * t.alike + 1;
            heap = new ArrayList<>(heap.subList(0, least + r.nextInt(heap.size() - least + 1)));
            SpoonShort x = with(t.text(), Naive.cardsText("cards", heap));
            String name = t.text() + heap;
            Naive.Round round = new Naive.Round(t, heap, 2000);
            boolean ends = round.first != NONE;
            Check.due("tenth " + name, x.round(0, 0, 0), ends ? round.tenth : NONE);
            Check.due("FIRST " + name, x.round(0, 0, 1), round.first);
            Check.due("LAST " + name, x.round(0, 0, 2), ends ? t.last(round.first, round.tenth) : NONE);
            Check.due("MENDS " + name, x.round(0, 0, 4), ends ? NONE : t.mends(heap));
            int all = 0;
            for (int p = 0; p < t.people.size(); p++) {
                all += round.handed[p];
                Check.due("handed on " + name, x.round(0, 0, 20 + p), round.handed[p]);
                int spoon = ends ? t.spoon(p, round.first, round.tenth) : NONE;
                Check.due("spoon " + name, x.round(0, 0, 10 + p), spoon);
            }
            Check.due("handed on in all " + name, x.round(0, 0, 3), all);
            for (int tenth : new int[] {0, r.nextInt(10), r.nextInt(60), r.nextInt(2001), 2000}) {
                behind(x, t, heap, tenth);
            }
        }
    }

    /** Rounds that go on long enough to come back to where they were, at all kinds of tenths. */
    private static void thatNeverEnd() {
        Random r = new Random(10);
        int many = 0;
        for (int i = 0; i < 20000 && many < 500; i++) {
            Naive t = Naive.byChance(r, i % 4 == 0 ? 13 : 4, 4);
            List<Integer> heap = t.pack();
            Collections.shuffle(heap, r);
            int least = t.people.size() * t.alike + 1;
            heap = new ArrayList<>(heap.subList(0, Math.min(heap.size(), least + r.nextInt(6))));
            int tenth = 1 + r.nextInt(2000);
            Naive.Round round = new Naive.Round(t, heap, tenth);
            if (round.first != NONE) {
                continue;
            }
            many++;
            SpoonShort x = with(t.text(), Naive.cardsText("cards", heap));
            for (int p = 0; p < t.people.size(); p++) {
                Check.due("waits", x.behind(0, 0, tenth, p, NONE), round.lie.ways.get(p).size());
                for (int kind = 0; kind < t.kinds; kind++) {
                    int want = Collections.frequency(round.lie.hands.get(p), kind);
                    Check.due("holds behind " + tenth + t.text() + heap, x.behind(0, 0, tenth, p, kind), want);
                }
            }
            round = new Naive.Round(t, heap, 2000);
            for (int p = 0; p < t.people.size(); p++) {
                Check.due("handed on", x.round(0, 0, 20 + p), round.handed[p]);
            }
        }
        Check.due("there are such", many == 500, true);
    }

    private static void behind(SpoonShort x, Naive t, List<Integer> heap, int tenth) {
        Naive.Round round = new Naive.Round(t, heap, tenth);
        for (int p = 0; p < t.people.size(); p++) {
            Check.due("waits behind " + tenth, x.behind(0, 0, tenth, p, NONE), round.lie.ways.get(p).size());
            for (int kind = 0; kind < t.kinds; kind++) {
                int want = Collections.frequency(round.lie.hands.get(p), kind);
                Check.due("holds behind " + tenth, x.behind(0, 0, tenth, p, kind), want);
            }
        }
    }

    private static void shuffles() {
        SpoonShort x = Check.fine(0, "kinds 2;copies 3;alike 2;person 1 1 0 0;person 1 1 0 0;");
        Check.due("k 6", x.shuffled(0, 1, 6), NONE);
        Check.due("k -1", x.shuffled(0, 1, -1), NONE);
        Check.due("table 1", x.shuffled(1, 1, 0), NONE);
        Random r = new Random(6);
        for (int i = 0; i < 60; i++) {
            Naive t = Naive.byChance(r, 13, 6);
            x = Check.fine(0, t.text());
            int seed = i < 3 ? new int[] {0, Integer.MIN_VALUE, -1}[i] : r.nextInt();
            List<Integer> pack = new Naive.Drawn(seed).shuffled(t.pack());
            for (int k = 0; k < pack.size(); k++) {
                Check.due("shuffled by " + seed, x.shuffled(0, seed, k), pack.get(k));
            }
            Check.due("no more", x.shuffled(0, seed, pack.size()), NONE);
        }
    }

    private static void evenings() {
        SpoonShort x = Check.fine(0, "kinds 2;alike 2;person 1 1 0 0;person 1 1 0 0;law 0 never;law 1 never;");
        Check.due("what 3", x.evening(0, 1, 3), -2);
        Check.due("what -1", x.evening(0, 1, -1), -2);
        Check.due("person 2", x.evening(0, 1, 12), -2);
        Check.due("person 2", x.evening(0, 1, 22), -2);
        Check.due("table 1", x.evening(1, 1, 0), -2);
        Random r = new Random(7);
        for (int i = 0; i < 200; i++) {
            evening(Naive.byChance(r, i % 3 == 0 ? 13 : 5, 6), r.nextInt());
        }
    }

    private static void evening(Naive t, int seed) {
        SpoonShort x = Check.fine(0, t.text());
        int n = t.people.size();
        int[] letters = new int[n];
        int[] outBy = new int[n];
        java.util.Arrays.fill(outBy, NONE);
        List<Integer> left = new ArrayList<>();
        for (int p = 0; p < n; p++) {
            left.add(p);
        }
        Naive.Drawn drawn = new Naive.Drawn(seed);
        int ended = 0;
        int firstOut = NONE;
        while (left.size() > 1) {
            List<Naive.Person> persons = new ArrayList<>();
            for (int p : left) {
                persons.add(t.people.get(p));
            }
            Naive now = t.with(persons);
            Naive.Round round = new Naive.Round(now, drawn.shuffled(t.pack()), 2000);
            if (round.first == NONE) {
                break;
            }
            int last = left.get(now.last(round.first, round.tenth));
            letters[last]++;
            if (letters[last] == t.letters) {
                outBy[last] = ended;
                firstOut = firstOut == NONE ? last : firstOut;
                left.remove(Integer.valueOf(last));
            }
            ended++;
        }
        String name = "evening of " + t.text() + " by " + seed;
        Check.due(name, x.evening(0, seed, 0), left.size() == 1 ? left.get(0) : NONE);
        Check.due(name, x.evening(0, seed, 1), ended);
        Check.due(name, x.evening(0, seed, 2), firstOut);
        for (int p = 0; p < n; p++) {
            Check.due(name, x.evening(0, seed, 10 + p), letters[p]);
            Check.due(name, x.evening(0, seed, 20 + p), outBy[p]);
        }
    }

    private static void luck() {
        SpoonShort x = Check.fine(0, "kinds 4;alike 2;person 1 1 0 0;person 1 1 0 0;person 1 1 0 0;");
        Check.due("k 0", x.luck(0, 1, 0, 0), NONE);
        Check.due("k 21", x.luck(0, 1, 21, 0), NONE);
        Check.due("what 1", x.luck(0, 1, 1, 1), NONE);
        Check.due("what -1", x.luck(0, 1, 1, -1), NONE);
        Check.due("person 3", x.luck(0, 1, 1, 13), NONE);
        Check.due("person 3", x.luck(0, 1, 1, 23), NONE);
        Check.due("table 1", x.luck(1, 1, 1, 0), NONE);
        Random r = new Random(8);
        for (int i = 0; i < 100; i++) {
            Naive t = Naive.byChance(r, i % 3 == 0 ? 13 : 5, 6);
            int seed = r.nextInt();
            int k = i == 0 ? 20 : 1 + r.nextInt(20);
            x = Check.fine(0, t.text());
            int[][] rounds = t.luck(seed, k);
            String name = "luck of " + t.text() + " by " + seed + ", " + k;
            Check.due(name, x.luck(0, seed, k, 0), Naive.times(rounds, 0, NONE));
            for (int p = 0; p < t.people.size(); p++) {
                Check.due(name, x.luck(0, seed, k, 10 + p), Naive.times(rounds, 0, p));
                Check.due(name, x.luck(0, seed, k, 20 + p), Naive.times(rounds, 1, p));
            }
        }
    }

    private static void otherwise() {
        SpoonShort x = Check.fine(0, "kinds 4;alike 2;person 1 1 0 0;person 1 1 0 0;person 1 1 0 0;");
        Check.due("k 0", x.otherwise(0, 1, 0, 0, 0, 1, true), NONE);
        Check.due("k 21", x.otherwise(0, 1, 21, 0, 0, 1, true), NONE);
        Check.due("k 21 better", x.otherwise(0, 1, 21, 0, 0, NONE, true), NONE);
        Check.due("sort 6", x.otherwise(0, 1, 1, 0, 6, 1, true), NONE);
        Check.due("sort -1", x.otherwise(0, 1, 1, 0, -1, 1, true), NONE);
        Check.due("sort 6 better", x.otherwise(0, 1, 1, 0, 6, NONE, true), NONE);
        Check.due("person 3", x.otherwise(0, 1, 1, 3, 0, 1, true), NONE);
        Check.due("person -1", x.otherwise(0, 1, 1, -1, 0, 1, true), NONE);
        Check.due("table 1", x.otherwise(1, 1, 1, 0, 0, 1, true), NONE);
        Random r = new Random(9);
        for (int i = 0; i < 150; i++) {
            Naive t = Naive.byChance(r, i % 3 == 0 ? 13 : 5, 6);
            int seed = r.nextInt();
            int k = 1 + r.nextInt(20);
            int person = r.nextInt(t.people.size());
            int sort = i % 6;
            x = Check.fine(0, t.text());
            int best = NONE;
            int seldomest = 0;
            for (int value = -2; value < 23; value++) {
                Naive changed = value < 0 ? null : t.otherwise(person, sort, value);
                String name = "otherwise " + t.text() + seed + " " + k + " " + person + " " + sort + " " + value;
                if (value == NONE) {
                    continue;
                }
                if (changed == null) {
                    Check.due(name, x.otherwise(0, seed, k, person, sort, value, false), NONE);
                    continue;
                }
                int[][] rounds = changed.luck(seed, k);
                int seat = sort == 5 ? value : person;
                int lasts = Naive.times(rounds, 1, seat);
                Check.due(name, x.otherwise(0, seed, k, person, sort, value, false), lasts);
                Check.due(name, x.otherwise(0, seed, k, person, sort, value, true), Naive.times(rounds, 0, seat));
                if (best == NONE || lasts < seldomest) {
                    best = value;
                    seldomest = lasts;
                }
            }
            x = Check.fine(0, t.text());
            Check.due("better", x.otherwise(0, seed, k, person, sort, NONE, false), best);
            Check.due("better, first", x.otherwise(0, seed, k, person, sort, NONE, true), best);
        }
    }
}

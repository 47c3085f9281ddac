import java.math.BigInteger;
import java.util.ArrayList;
import java.util.Arrays;
import java.util.Collections;
import java.util.HashMap;
import java.util.List;
import java.util.Map;
import java.util.Random;

/** Promises 21 to 26: what can be known of a hand at a table. */
public final class OddsTest {
    private static final int NONE = SpoonShort.NONE;
    private static final String PEOPLE = "person 1 1 0 0;person 1 1 0 0;";

    public static void main(String[] args) {
        unseen();
        withinByHand();
        keptByHand();
        aloneByHand();
        soonest();
        keepsByHand();
        byChance();
        greatest();
        Check.finish();
    }

    private static SpoonShort with(String table, String hand) {
        SpoonShort x = Check.fine(0, table + PEOPLE);
        Check.due("hand " + hand, Check.tell(x, 3, hand), 0);
        return x;
    }

    private static void unseen() {
        SpoonShort x = with("kinds 3;copies 3;alike 2;", "hold 0 1;gone 1 1 2;gone 2;");
        Check.due("fits", x.unseen(0, 0, 0), 1);
        Check.due("unseen", x.unseen(0, 0, 1), 3);
        Check.due("starved", x.unseen(0, 0, 2), 6);
        Check.due("unseen 0", x.unseen(0, 0, 10), 2);
        Check.due("unseen 1", x.unseen(0, 0, 11), 0);
        Check.due("unseen 2", x.unseen(0, 0, 12), 1);
        Check.due("unseen 3", x.unseen(0, 0, 13), NONE);
        Check.due("what 3", x.unseen(0, 0, 3), NONE);
        Check.due("what 9", x.unseen(0, 0, 9), NONE);
        Check.due("what -1", x.unseen(0, 0, -1), NONE);
        Check.due("table 1", x.unseen(1, 0, 0), NONE);
        Check.due("hand 1", x.unseen(0, 1, 0), NONE);
        String[] not = {"", "hold 0;", "hold 0 1 2;", "hold 0 3;", "hold 0 1;gone 3;", "hold 0 0;gone 0 0;", "hold 0 1;gone 2 2 2 2;",
            "gone 0 1;"};
        for (String hand : not) {
            SpoonShort y = with("kinds 3;copies 3;alike 2;", hand);
            Check.due("heap", Check.tell(y, 1, "cards 0 0 0;"), 0);
            Check.due("fits " + hand, y.unseen(0, 0, 0), 0);
            Check.due("unseen " + hand, y.unseen(0, 0, 1), NONE);
            Check.due("starved " + hand, y.unseen(0, 0, 2), NONE);
            Check.due("within " + hand, y.within(0, 0, 0, false), NONE);
            Check.due("kept " + hand, y.kept(0, 0, 1, 2), NONE);
            Check.due("alone " + hand, y.alone(0, 0, 0, 0, false), NONE);
            Check.due("soonest " + hand, y.soonest(0, 0, 0, false), NONE);
            Check.due("keeps " + hand, y.keeps(0, 0, 0, 0, false), NONE);
        }
        x = with("kinds 5;copies 1;alike 2;", "hold 0 1;");
        Check.due("all starved", x.unseen(0, 0, 2), 31);
        x = with("kinds 5;copies 4;alike 3;", "hold 0 1 1;gone 0 1 2 3 3 4 4 4;");
        Check.due("just enough of 0, 1, 2", x.unseen(0, 0, 2), 24);
    }

    private static void fraction(String name, long n, long d, long wantN, long wantD) {
        Check.due("N of " + name, n, wantN);
        Check.due("D of " + name, d, wantD);
    }

    private static void within(SpoonShort x, int n, long wantN, long wantD) {
        fraction("within " + n, x.within(0, 0, n, false), x.within(0, 0, n, true), wantN, wantD);
    }

    private static void withinByHand() {
        // Of 6 UNSEEN 3 are 0 and 3 are 1: any one makes two alike.
        SpoonShort x = with("kinds 2;alike 2;", "hold 0 1;");
        within(x, 0, 0, 1);
        within(x, 1, 1, 1);
        within(x, 6, 1, 1);
        for (int n : new int[] {-1, 7, Integer.MAX_VALUE}) {
            Check.due("within " + n, x.within(0, 0, n, false), NONE);
        }
        Check.due("table 1", x.within(1, 0, 1, false), NONE);
        Check.due("hand -1", x.within(0, -1, 1, true), NONE);
        // He needs one 0 of 1 in 5, or one 1 of 1.
        x = with("kinds 3;alike 2;copies 2;", "hold 0 1;gone 2;");
        within(x, 1, 2, 3);
        within(x, 2, 1, 1);
        // A third card can only be alike to one that he kept.
        x = with("kinds 3;alike 2;copies 2;", "hold 0 1;gone 0 1;");
        within(x, 1, 0, 1);
        within(x, 2, 1, 1);
        Check.due("more than are UNSEEN", x.within(0, 0, 3, false), NONE);
        // Who has them has them with no card as with many.
        x = with("kinds 4;alike 3;", "hold 2 2 2;");
        for (int n = 0; n <= 6; n++) {
            within(x, n, 1, 1);
        }
        x = with("kinds 4;alike 4;", "hold 2 2 2 1;");
        within(x, 1, 1, 12);
        x = with("kinds 5;alike 4;", "hold 2 2 2 1;");
        Check.due("five KINDS", x.within(0, 0, 1, false), NONE);
        Check.due("five KINDS", x.kept(0, 0, 1, 1), NONE);
    }

    private static void keptByHand() {
        SpoonShort x = with("kinds 4;alike 3;", "hold 0 0 1;gone 0 0;");
        // No 0 comes any more: of 0 0 1 1 he keeps the ones.
        Check.due("kept", x.kept(0, 0, 2, 1), 0);
        Check.due("of several the least", x.kept(0, 0, 1, 1), 0);
        Check.due("none UNSEEN", x.kept(0, 0, 1, 0), NONE);
        Check.due("no such KIND", x.kept(0, 0, 1, 4), NONE);
        Check.due("no such KIND", x.kept(0, 0, 1, -1), NONE);
        Check.due("n 0", x.kept(0, 0, 0, 1), NONE);
        Check.due("n 7", x.kept(0, 0, 7, 1), NONE);
        Check.due("table 1", x.kept(1, 0, 1, 1), NONE);
        Check.due("hand 1", x.kept(0, 1, 1, 1), NONE);
        x = with("kinds 4;alike 3;", "hold 0 1 1;");
        Check.due("he has them by it", x.kept(0, 0, 1, 1), 0);
        Check.due("he keeps the pair", x.kept(0, 0, 2, 3), 0);
        x = with("kinds 4;alike 3;", "hold 1 3 3;");
        Check.due("he keeps the pair", x.kept(0, 0, 2, 0), 0);
        x = with("kinds 4;alike 3;", "hold 1 1 1;");
        Check.due("he has them", x.kept(0, 0, 2, 0), NONE);
        x = with("kinds 3;alike 2;copies 2;", "hold 0 1;gone 0 1 2;");
        Check.due("one is UNSEEN", x.kept(0, 0, 1, 2), 0);
        Check.due("fewer than two are", x.kept(0, 0, 2, 2), NONE);
    }

    private static void aloneByHand() {
        SpoonShort x = with("kinds 13;alike 4;", "hold 5 5 5 6;");
        fraction("5 in 1", x.alone(0, 0, 5, 1, false), x.alone(0, 0, 5, 1, true), 1, 48);
        fraction("5 in 6", x.alone(0, 0, 5, 6, false), x.alone(0, 0, 5, 6, true), 1, 8);
        fraction("6 in 2", x.alone(0, 0, 6, 2, false), x.alone(0, 0, 6, 2, true), 0, 1);
        fraction("6 in 3", x.alone(0, 0, 6, 3, false), x.alone(0, 0, 6, 3, true), 1, 17296);
        fraction("0 in 0", x.alone(0, 0, 0, 0, false), x.alone(0, 0, 0, 0, true), 0, 1);
        Check.due("kind 13", x.alone(0, 0, 13, 1, false), NONE);
        Check.due("kind -1", x.alone(0, 0, -1, 1, false), NONE);
        Check.due("n 7", x.alone(0, 0, 5, 7, false), NONE);
        Check.due("n -1", x.alone(0, 0, 5, -1, false), NONE);
        Check.due("table -1", x.alone(-1, 0, 5, 1, false), NONE);
        Check.due("hand 2", x.alone(0, 2, 5, 1, false), NONE);
        x = with("kinds 3;alike 2;copies 2;", "hold 2 2;gone 0 1;");
        fraction("he has them", x.alone(0, 0, 2, 0, false), x.alone(0, 0, 2, 0, true), 1, 1);
        fraction("another KIND", x.alone(0, 0, 0, 2, false), x.alone(0, 0, 0, 2, true), 0, 1);
        Check.due("three of two", x.alone(0, 0, 2, 3, false), NONE);
    }

    private static void soonest() {
        SpoonShort x = with("kinds 4;alike 3;", "hold 0 1 1;");
        Check.due("heap", Check.tell(x, 1, "cards 2 2 0 3 2 1;"), 0);
        Check.due("behind", x.soonest(0, 0, 0, false), 5);
        Check.due("kind", x.soonest(0, 0, 0, true), 2);
        Check.due("heap 1", x.soonest(0, 0, 1, false), NONE);
        Check.due("hand 1", x.soonest(0, 1, 0, false), NONE);
        Check.due("table 1", x.soonest(1, 0, 0, true), NONE);
        Check.due("another heap", Check.tell(x, 1, "cards 2 2 0 3;"), 1);
        Check.due("never", x.soonest(0, 0, 1, false), NONE);
        Check.due("never", x.soonest(0, 0, 1, true), NONE);
        Check.due("a KIND behind it", Check.tell(x, 1, 1, "cards 1 4;"), 1);
        Check.due("is not there", x.soonest(0, 0, 1, false), NONE);
        Check.due("an empty one", Check.tell(x, 1, 1, ""), 1);
        Check.due("never", x.soonest(0, 0, 1, false), NONE);
        Check.due("a hand that has them", Check.tell(x, 3, "hold 3 3 3;"), 1);
        Check.due("behind none", x.soonest(0, 1, 1, false), 0);
        Check.due("kind", x.soonest(0, 1, 1, true), 3);
        Check.due("behind none", x.soonest(0, 1, 0, false), 0);
    }

    private static void keepsByHand() {
        SpoonShort x = with("kinds 2;alike 2;copies 4;", "hold 0 0;");
        // Of 6 UNSEEN 2 are 0: of 15 pairs 6 have none, 8 one, 1 two.
        long[][] want = {{1, 1}, {3, 5}, {1, 15}, {0, 1}, {0, 1}};
        for (int j = 0; j <= 4; j++) {
            fraction("keeps " + j, x.keeps(0, 0, 0, j, false), x.keeps(0, 0, 0, j, true), want[j][0], want[j][1]);
        }
        Check.due("j 5", x.keeps(0, 0, 0, 5, false), NONE);
        Check.due("j -1", x.keeps(0, 0, 0, -1, false), NONE);
        Check.due("kind 2", x.keeps(0, 0, 2, 0, false), NONE);
        Check.due("kind -1", x.keeps(0, 0, -1, 0, false), NONE);
        Check.due("table 1", x.keeps(1, 0, 0, 0, false), NONE);
        Check.due("hand 1", x.keeps(0, 1, 0, 0, false), NONE);
        x = with("kinds 2;alike 2;copies 4;", "hold 0 0;gone 0 1 1 1;");
        fraction("just as many", x.keeps(0, 0, 1, 1, false), x.keeps(0, 0, 1, 1, true), 1, 1);
        x = with("kinds 2;alike 2;copies 4;", "hold 0 0;gone 0 1 1 1 1;");
        Check.due("fewer UNSEEN than ALIKE", x.keeps(0, 0, 0, 0, false), NONE);
    }

    private static final class Hand {
        private static final Map<String, Long> GOOD = new HashMap<>();
        final int[] held;
        final int[] unseen;
        final int alike;

        Hand(int[] held, int[] unseen, int alike) {
            this.held = held;
            this.unseen = unseen;
            this.alike = alike;
        }

        boolean has() {
            return Arrays.stream(held).max().getAsInt() >= alike;
        }

        long orders(int n) {
            int u = Arrays.stream(unseen).sum();
            long all = 1;
            for (int i = 0; i < n; i++) {
                all *= u - i;
            }
            return all;
        }

        /** Each hand once, kept by all that it depends on. */
        long good(int n) {
            if (has()) {
                return orders(n);
            }
            String name = n + Arrays.toString(held) + Arrays.toString(unseen) + alike;
            Long known = GOOD.get(name);
            if (known == null) {
                known = goodOfAll(n);
                GOOD.put(name, known);
            }
            return known;
        }

        private long goodOfAll(int n) {
            long all = 0;
            for (int k = 0; k < unseen.length && n > 0; k++) {
                if (unseen[k] > 0) {
                    long best = 0;
                    for (int j = 0; j < held.length; j++) {
                        best = Math.max(best, handing(k, j, n));
                    }
                    all += unseen[k] * best;
                }
            }
            return all;
        }

        long handing(int comes, int goes, int n) {
            int[] h = held.clone();
            int[] u = unseen.clone();
            h[comes]++;
            u[comes]--;
            if (h[goes] == 0) {
                return -1;
            }
            h[goes]--;
            return new Hand(h, u, alike).good(n - 1);
        }
    }

    private static void least(String name, long gotN, long gotD, long n, long d) {
        long g = BigInteger.valueOf(n).gcd(BigInteger.valueOf(d)).longValue();
        fraction(name, gotN, gotD, n / g, d / g);
    }

    private static void byChance() {
        Random r = new Random(4);
        for (int i = 0; i < 500; i++) {
            Naive t = Naive.byChance(r, i % 3 == 0 ? 8 : 4, 3);
            List<Integer> pack = t.pack();
            Collections.shuffle(pack, r);
            List<Integer> held = new ArrayList<>(pack.subList(0, t.alike));
            int gone = r.nextInt(Math.min(48, pack.size() - t.alike + 1));
            List<Integer> past = pack.subList(t.alike, t.alike + gone);
            List<Integer> left = pack.subList(t.alike + gone, pack.size());
            SpoonShort x = Check.fine(0, t.text());
            String text = Naive.cardsText("gone", past) + Naive.cardsText("hold", held);
            Check.due(text, Check.tell(x, 3, text), 0);
            Hand hand = new Hand(new int[t.kinds], new int[t.kinds], t.alike);
            for (int k = 0; k < t.kinds; k++) {
                hand.held[k] = Collections.frequency(held, k);
                hand.unseen[k] = Collections.frequency(left, k);
                Check.due("unseen " + k, x.unseen(0, 0, 10 + k), hand.unseen[k]);
            }
            String name = t.text() + text;
            int starved = 0;
            for (int k = 0; k < t.kinds; k++) {
                starved |= Collections.frequency(past, k) > t.copies - t.alike ? 1 << k : 0;
            }
            Check.due("starved " + name, x.unseen(0, 0, 2), starved);
            Check.due(name, x.unseen(0, 0, 1), left.size());
            for (int n = 0; n <= 6; n++) {
                withinByChance(name, x, hand, n, t.kinds);
            }
            for (int k = 0; k < t.kinds; k++) {
                subsets(name, x, hand, left, k);
            }
        }
    }

    private static void withinByChance(String name, SpoonShort x, Hand hand, int n, int kinds) {
        long orders = hand.orders(n);
        if (kinds > 4 || orders <= 0) {
            Check.due("no within " + name, x.within(0, 0, n, false), NONE);
            Check.due("no kept " + name, x.kept(0, 0, n, 0), NONE);
            return;
        }
        String call = "within " + n + " " + name;
        least(call, x.within(0, 0, n, false), x.within(0, 0, n, true), hand.good(n), orders);
        for (int k = 0; k < kinds; k++) {
            int best = NONE;
            long most = -1;
            for (int j = 0; j < kinds && n > 0 && hand.unseen[k] > 0 && !hand.has(); j++) {
                long good = hand.handing(k, j, n);
                if (good > most) {
                    most = good;
                    best = j;
                }
            }
            Check.due("kept " + n + " " + k + " " + name, x.kept(0, 0, n, k), best);
        }
    }

    /** All sets of UNSEEN cards, one by one. */
    private static void subsets(String name, SpoonShort x, Hand hand, List<Integer> left, int kind) {
        int u = left.size();
        if (u > 14) {
            return;
        }
        long[][] have = new long[u + 1][5];
        long[] all = new long[u + 1];
        for (int set = 0; set < 1 << u; set++) {
            int size = Integer.bitCount(set);
            int many = 0;
            for (int i = 0; i < u; i++) {
                many += (set >> i & 1) == 1 && left.get(i) == kind ? 1 : 0;
            }
            all[size]++;
            have[size][many]++;
        }
        for (int n = 0; n <= 6; n++) {
            if (n > u) {
                Check.due("no alone " + name, x.alone(0, 0, kind, n, true), NONE);
                continue;
            }
            long good = 0;
            for (int i = Math.max(0, hand.alike - hand.held[kind]); i <= 4; i++) {
                good += have[n][i];
            }
            String call = "alone " + kind + " " + n + " " + name;
            least(call, x.alone(0, 0, kind, n, false), x.alone(0, 0, kind, n, true), good, all[n]);
        }
        for (int j = 0; j <= 4; j++) {
            if (u < hand.alike) {
                Check.due("no keeps " + name, x.keeps(0, 0, kind, j, true), NONE);
                continue;
            }
            long good = 0;
            for (int i = j; i <= 4; i++) {
                good += have[hand.alike][i];
            }
            String call = "keeps " + kind + " " + j + " " + name;
            least(call, x.keeps(0, 0, kind, j, false), x.keeps(0, 0, kind, j, true), good, all[hand.alike]);
        }
    }

    private static void greatest() {
        // The longest way: all of six cards, four KINDS.
        for (String held : new String[] {"0 1 2 3", "0 0 1 2", "3 3 2 2", "1 2 2 3"}) {
            SpoonShort x = with("", "hold " + held + ";");
            Hand hand = new Hand(new int[4], new int[] {4, 4, 4, 4}, 4);
            for (String kind : held.split(" ")) {
                hand.held[Integer.parseInt(kind)]++;
                hand.unseen[Integer.parseInt(kind)]--;
            }
            least("within 5 of " + held, x.within(0, 0, 5, false), x.within(0, 0, 5, true), hand.good(5), hand.orders(5));
        }
        SpoonShort x = with("kinds 4;alike 2;", "hold 0 1;");
        Hand hand = new Hand(new int[] {1, 1, 0, 0}, new int[] {3, 3, 4, 4}, 2);
        least("within 6", x.within(0, 0, 6, false), x.within(0, 0, 6, true), hand.good(6), hand.orders(6));
    }
}

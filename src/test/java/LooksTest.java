import java.util.List;
import java.util.Random;

/** Promises 27 to 31: how often to look, the game of looks, spoons that are even, feints. */
public final class LooksTest {
    private static final int NONE = SpoonShort.NONE;
    private static final String THREE = "alike 2;out 2;person 1 2 1 3;person 2 3 0 5;person 1 1 2 0;jumpy 1;jumpy 2;";

    public static void main(String[] args) {
        looks();
        often();
        rests();
        even();
        feints();
        byChance();
        Check.finish();
    }

    private static void looks() {
        SpoonShort x = Check.fine(0, THREE);
        // PERSON 0 FIRST: he has his at T and 4, 1 at T and 6 .. 8, 2 at T and 3.
        Check.due("LAST is 1 always", x.looks(0, 1, 0, NONE), 60);
        Check.due("LAST is 2 never", x.looks(0, 2, 0, NONE), 0);
        // PERSON 1 FIRST: T and 5; 0 at T and 5 or 6 (T even): LAST of two the greatest.
        Check.due("LAST is 0", x.looks(0, 0, 1, NONE), 30);
        Check.due("LAST at 0", x.looks(0, NONE, 1, 0), 0);
        Check.due("LAST at 1 is FIRST", x.looks(0, 99, 1, 1), 1);
        Check.due("LAST at 59", x.looks(0, 1, 1, 59), 1);
        Check.due("at 60", x.looks(0, 0, 1, 60), NONE);
        Check.due("at -2", x.looks(0, 0, 1, -2), NONE);
        Check.due("both are one", x.looks(0, 1, 1, NONE), NONE);
        Check.due("person 3", x.looks(0, 3, 1, NONE), NONE);
        Check.due("person -1", x.looks(0, -1, 1, NONE), NONE);
        Check.due("first 3", x.looks(0, 1, 3, NONE), NONE);
        Check.due("first 3 at 0", x.looks(0, 1, 3, 0), NONE);
        Check.due("first -1 at 0", x.looks(0, 1, -1, 0), NONE);
        Check.due("table 1", x.looks(1, 1, 0, 0), NONE);
    }

    private static void often() {
        SpoonShort x = Check.fine(0, THREE);
        // He is LAST whatever he does: the seldomer the better.
        Check.due("in vain", x.often(0, 1, 0), 9);
        Check.due("both are one", x.often(0, 1, 1), NONE);
        Check.due("person 3", x.often(0, 3, 0), NONE);
        Check.due("first 3", x.often(0, 0, 3), NONE);
        Check.due("first -1", x.often(0, 0, -1), NONE);
        Check.due("table 1", x.often(1, 0, 1), NONE);
        // FIRST is LAST anyhow: 60 by 7 and by 8, cut, are 8 and 7, by 9 it is 6.
        x = Check.fine(0, "person 1 1 9 20;person 1 1 0 0;");
        Check.due("no need to look", x.often(0, 1, 0), 9);
    }

    private static void rests() {
        SpoonShort x = Check.fine(0, "person 1 9 0 0;person 1 7 0 0;");
        // The other one is always LAST: 60 and 40 by EYES; the seldomer the better.
        Check.due("how many", x.rests(0, NONE, NONE), 1);
        Check.due("the first", x.rests(0, NONE, 0), 8);
        Check.due("no second", x.rests(0, NONE, 1), NONE);
        Check.due("k -2", x.rests(0, NONE, -2), NONE);
        Check.due("cost by way 0", x.rests(0, 0, 0), 100);
        Check.due("cost of 0 by way 1", x.rests(0, 0, 1), 100);
        Check.due("cost of 1 by way 1", x.rests(0, 1, 1), 80);
        Check.due("cost of 1 by way 8", x.rests(0, 1, 8), 73);
        Check.due("way 9", x.rests(0, 1, 9), NONE);
        Check.due("way NONE", x.rests(0, 1, NONE), NONE);
        Check.due("person 2", x.rests(0, 2, 0), NONE);
        Check.due("person -2", x.rests(0, -2, 0), NONE);
        Check.due("table 1", x.rests(1, NONE, NONE), NONE);
        String one = "person 1 1 0 0;";
        x = Check.fine(0, "alike 2;" + one + one + one + one + one);
        Check.due("way 242", x.rests(0, 4, 242), 273);
        Check.due("way 243", x.rests(0, 4, 243), NONE);
        x = Check.fine(0, "alike 2;" + one + one + one + one + one + one);
        Check.due("six", x.rests(0, NONE, NONE), NONE);
        Check.due("six", x.rests(0, 0, 0), NONE);
    }

    private static void even() {
        // Looks of EYES 1 are 1 tenth off, of EYES 2 1.5 on the average, of EYES 3 2.
        SpoonShort x = Check.fine(0, "alike 2;person 1 1 0 0;person 1 2 0 0;person 1 3 0 0;");
        Check.due("by a tenth", x.even(0, 0), 1);
        Check.due("by half a tenth", x.even(0, 1), 0);
        Check.due("the most", x.even(0, 2), 0);
        Check.due("person 3", x.even(0, 3), NONE);
        Check.due("person -1", x.even(0, -1), NONE);
        Check.due("table 1", x.even(1, 0), NONE);
        x = Check.fine(0, "person 1 1 9 20;person 1 1 3 4;");
        Check.due("by 22", x.even(0, 1), 22);
    }

    private static void feints() {
        SpoonShort x = Check.fine(0, THREE);
        Check.due("at 0", x.feint(0, 0, 0), 6);
        Check.due("at 1", x.feint(0, 0, 1), 6);
        Check.due("himself", x.feint(0, 1, 1), 4);
        Check.due("not JUMPY", x.feint(0, 2, 2), 2);
        Check.due("at 59", x.feint(0, 0, 59), 6);
        Check.due("at 60", x.feint(0, 0, 60), NONE);
        Check.due("at -2", x.feint(0, 0, -2), NONE);
        Check.due("lure", x.feint(0, 0, NONE), 0);
        Check.due("person 3", x.feint(0, 3, 0), NONE);
        Check.due("person 3", x.feint(0, 3, NONE), NONE);
        Check.due("person -1", x.feint(0, -1, 0), NONE);
        Check.due("table 1", x.feint(1, 0, 0), NONE);
        x = Check.fine(0, "out 0;person 1 1 0 0;person 1 5 0 0;jumpy 0;jumpy 1;");
        Check.due("at 4", x.feint(0, 0, 4), 0);
        Check.due("at 5", x.feint(0, 0, 5), 2);
        Check.due("at 6", x.feint(0, 0, 6), 0);
        x = Check.fine(0, "out 9;person 1 9 0 0;person 1 9 0 0;jumpy 1;");
        Check.due("out for long", x.feint(0, 0, 1), 2);
    }

    private static void byChance() {
        Random r = new Random(2);
        for (int i = 0; i < 150; i++) {
            Naive t = Naive.byChance(r, 13, 6);
            SpoonShort x = Check.fine(0, t.text());
            int n = t.people.size();
            int[] waits = new int[n];
            for (int p = 0; p < n; p++) {
                for (int at = 0; at < 60; at++) {
                    waits[p] += t.spoon(p, NONE, at) - at;
                }
            }
            for (int p = 0; p < n; p++) {
                pairs(x, t, p);
                double off = (java.util.Arrays.stream(waits).max().getAsInt() - waits[p]) / 60.0;
                Check.due("even " + t.text() + p, x.even(0, p), (long) Math.ceil(off - 0.5));
                feint(x, t, p, r.nextInt(60));
            }
            if (n <= 5 && i % 3 == 0 || n <= 3) {
                game(x, t, r);
            }
        }
    }

    private static void pairs(SpoonShort x, Naive t, int first) {
        for (int at = 0; at < 60; at += 7) {
            Check.due("LAST at " + at + t.text(), x.looks(0, NONE, first, at), t.last(first, at));
        }
        for (int p = 0; p < t.people.size(); p++) {
            if (p == first) {
                continue;
            }
            Check.due("LASTS " + t.text(), x.looks(0, p, first, NONE), t.lasts(p, first));
            int best = 0;
            int least = Integer.MAX_VALUE;
            Naive other = t.with(t.people);
            for (int eyes = 9; eyes >= 1; eyes--) {
                other.people.get(p).eyes = eyes;
                int all = other.lasts(p, first) + 60 / eyes;
                if (all <= least) {
                    least = all;
                    best = eyes;
                }
            }
            Check.due("OFTEN " + t.text() + p + first, x.often(0, p, first), best);
        }
    }

    private static void feint(SpoonShort x, Naive t, int person, int at) {
        int bits = 0;
        for (int p = 0; p < t.people.size(); p++) {
            for (int tenth = at; tenth <= at + t.out; tenth++) {
                Naive.Person one = t.people.get(p);
                if (p != person && one.jumpy && tenth % one.eyes == 0) {
                    bits |= 1 << p;
                }
            }
        }
        Check.due("feint at " + at + t.text(), x.feint(0, person, at), bits);
        Check.due("all look at tenth 0", x.feint(0, person, NONE), 0);
    }

    private static void game(SpoonShort x, Naive t, Random r) {
        List<Integer> rests = t.rests();
        Check.due("REST " + t.text(), x.rests(0, NONE, NONE), rests.size());
        for (int k = 0; k < rests.size(); k++) {
            Check.due("REST " + k + t.text(), x.rests(0, NONE, k), rests.get(k));
        }
        Check.due("no more", x.rests(0, NONE, rests.size()), NONE);
        int ways = (int) Math.round(Math.pow(3, t.people.size()));
        for (int i = 0; i < 20; i++) {
            int way = r.nextInt(ways);
            int p = r.nextInt(t.people.size());
            Check.due("COST " + way + t.text(), x.rests(0, p, way), t.cost(p, t.way(way)));
        }
    }
}

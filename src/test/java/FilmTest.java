import java.math.BigInteger;
import java.util.Random;

/** Promises 33 and 34: what a film shows of who pulled first. */
public final class FilmTest {
    private static final int NONE = SpoonShort.NONE;
    private static final String ONE = "person 1 1 0 0;";

    public static void main(String[] args) {
        takenBetween();
        whoIsFirst();
        lies();
        notThere();
        likely();
        byChance();
        Check.finish();
    }

    private static SpoonShort with(int people, String film) {
        StringBuilder table = new StringBuilder("alike 2;");
        for (int i = 0; i < people; i++) {
            table.append(ONE);
        }
        SpoonShort x = Check.fine(0, table.toString());
        Check.due("film " + film, Check.tell(x, 4, film), 0);
        return x;
    }

    private static void takenBetween() {
        SpoonShort x = with(4, "frame 3 2;frame 10 2 0;frame 12;frame 99 2 0 3;");
        int[][] taken = {{3, 10}, {-2, -2}, {-1, 3}, {12, 99}};
        for (int p = 0; p < 4; p++) {
            Check.due("above " + p, x.film(0, 0, 10 + p), taken[p][0]);
            Check.due("up to " + p, x.film(0, 0, 20 + p), taken[p][1]);
        }
        for (int what : new int[] {-1, 4, 9, 14, 19, 24, 30, Integer.MAX_VALUE, Integer.MIN_VALUE}) {
            Check.due("what " + what, x.film(0, 0, what), -2);
        }
        Check.due("table 1", x.film(1, 0, 0), -2);
        Check.due("film 1", x.film(0, 1, 0), -2);
        Check.due("film -1", x.film(0, -1, 1), -2);
    }

    private static void whoIsFirst() {
        SpoonShort x = with(3, "frame 3 2;frame 10 2 0;");
        Check.due("sure", x.film(0, 0, 1), 2);
        Check.due("may", x.film(0, 0, 2), 4);
        // Both between two FRAMES: each may be, nobody is for sure.
        x = with(3, "frame 3;frame 10 2 0;");
        Check.due("not sure", x.film(0, 0, 1), NONE);
        Check.due("may", x.film(0, 0, 2), 5);
        // At the one tenth that there is both are FIRST, none of them alone.
        x = with(3, "frame 0 0 1;frame 10 2 0 1;");
        Check.due("with him", x.film(0, 0, 1), NONE);
        Check.due("both may", x.film(0, 0, 2), 3);
        Check.due("pulled", x.pulled(0, 0, 0, false), 1);
        Check.due("pulled", x.pulled(0, 0, 0, true), 1);
        Check.due("too late", x.pulled(0, 0, 2, false), 0);
        Check.due("too late", x.pulled(0, 0, 2, true), 1);
        x = with(3, "frame 5;");
        Check.due("nobody", x.film(0, 0, 1), NONE);
        Check.due("nobody may", x.film(0, 0, 2), 0);
        x = with(3, "");
        Check.due("no frames", x.film(0, 0, 1), NONE);
        Check.due("no lies", x.film(0, 0, 0), 0);
        Check.due("none short", x.film(0, 0, 3), 0);
    }

    private static void lies() {
        SpoonShort x = with(3, "frame 0 1;frame 1;frame 2 0 1;frame 3 0 2;frame 4 0 1 2;frame 5;");
        Check.due("lies", x.film(0, 0, 0), 2 + 8 + 32);
        Check.due("short", x.film(0, 0, 3), 1);
        x = with(2, "frame 0;frame 1 0;frame 2 0 1;frame 4 0 1;");
        Check.due("no lies", x.film(0, 0, 0), 0);
        Check.due("short", x.film(0, 0, 3), 2);
    }

    private static void notThere() {
        // PERSON 3 is in the film, but not at the table.
        SpoonShort x = with(2, "frame 0 3;frame 5 3 0;frame 9 3 0 1;");
        Check.due("sure", x.film(0, 0, 1), 0);
        Check.due("may", x.film(0, 0, 2), 1);
        Check.due("short", x.film(0, 0, 3), 1);
        Check.due("taken", x.film(0, 0, 13), -2);
        Check.due("pulled by one", x.pulled(0, 0, 3, false), NONE);
        Check.due("pulled", x.pulled(0, 0, 0, false), 1);
        Check.due("pulled", x.pulled(0, 0, 0, true), 1);
    }

    private static void likely() {
        // Each at tenth 2 or 3: only 3 against 2 is not ahead.
        SpoonShort x = with(3, "frame 1;frame 3 0 1;");
        Check.due("of four pairs three", x.pulled(0, 0, 0, false), 3);
        Check.due("of four pairs", x.pulled(0, 0, 0, true), 4);
        Check.due("in no FRAME", x.pulled(0, 0, 2, false), NONE);
        Check.due("person 3", x.pulled(0, 0, 3, false), NONE);
        Check.due("person -1", x.pulled(0, 0, -1, true), NONE);
        Check.due("table 1", x.pulled(1, 0, 0, false), NONE);
        Check.due("film 1", x.pulled(0, 1, 0, true), NONE);
        // All six in the first FRAME, at 99: the sum of the fifth powers up to 100 by 100 to the sixth.
        x = with(6, "frame 99 0 1 2 3 4 5;");
        BigInteger n = BigInteger.ZERO;
        for (int i = 1; i <= 100; i++) {
            n = n.add(BigInteger.valueOf(i).pow(5));
        }
        BigInteger d = BigInteger.valueOf(100).pow(6);
        BigInteger g = n.gcd(d);
        Check.due("N of six", x.pulled(0, 0, 5, false), n.divide(g).longValue());
        Check.due("D of six", x.pulled(0, 0, 5, true), d.divide(g).longValue());
    }

    private static void byChance() {
        Random r = new Random(1);
        for (int i = 0; i < 300; i++) {
            int people = 2 + r.nextInt(3);
            StringBuilder film = new StringBuilder();
            int frames = r.nextInt(5);
            int[] tenths = new int[frames];
            int[] whos = new int[frames];
            for (int k = 0; k < frames; k++) {
                tenths[k] = (k == 0 ? -1 : tenths[k - 1]) + 1 + r.nextInt(6);
                film.append("frame ").append(tenths[k]);
                for (int p = 0; p < 6; p++) {
                    if (r.nextInt(3) == 0 || k > 0 && (whos[k - 1] >> p & 1) == 1 && r.nextInt(5) > 0) {
                        film.append(' ').append(p);
                        whos[k] |= 1 << p;
                    }
                }
                film.append(';');
            }
            look(with(people, film.toString()), people, tenths, whos);
        }
    }

    /** All that can have been, one by one. */
    private static void look(SpoonShort x, int people, int[] tenths, int[] whos) {
        int[] above = new int[people];
        int[] upTo = new int[people];
        for (int p = 0; p < people; p++) {
            above[p] = 999;
            upTo[p] = 1000;
            for (int k = tenths.length - 1; k >= 0; k--) {
                if ((whos[k] >> p & 1) == 1) {
                    above[p] = k == 0 ? -1 : tenths[k - 1];
                    upTo[p] = tenths[k];
                }
            }
        }
        int[] at = new int[people];
        long[] first = new long[people];
        long[] alone = new long[people];
        long all = every(0, at, above, upTo, first, alone);
        int sure = NONE;
        int may = 0;
        for (int p = 0; p < people; p++) {
            boolean in = upTo[p] < 1000;
            if (in) {
                sure = alone[p] == all ? p : sure;
                may |= first[p] > 0 ? 1 << p : 0;
            }
            long g = BigInteger.valueOf(first[p]).gcd(BigInteger.valueOf(all)).longValue();
            Check.due("N", x.pulled(0, 0, p, false), in ? first[p] / g : NONE);
            Check.due("D", x.pulled(0, 0, p, true), in ? all / g : NONE);
            Check.due("above", x.film(0, 0, 10 + p), in ? above[p] : -2);
            Check.due("up to", x.film(0, 0, 20 + p), in ? upTo[p] : -2);
        }
        int lies = 0;
        int shorts = 0;
        for (int k = 0; k < tenths.length; k++) {
            int there = whos[k] & (1 << people) - 1;
            shorts += Integer.bitCount(there) > people - 1 ? 1 : 0;
            for (int p = 0; p < 6 && k > 0; p++) {
                if ((whos[k - 1] >> p & 1) == 1 && (whos[k] >> p & 1) == 0) {
                    lies |= 1 << k;
                }
            }
        }
        Check.due("lies", x.film(0, 0, 0), lies);
        Check.due("sure", x.film(0, 0, 1), sure);
        Check.due("may", x.film(0, 0, 2), may);
        Check.due("short", x.film(0, 0, 3), shorts);
    }

    private static long every(int p, int[] at, int[] above, int[] upTo, long[] first, long[] alone) {
        if (p == at.length) {
            for (int q = 0; q < at.length; q++) {
                boolean ahead = true;
                boolean only = true;
                for (int o = 0; o < at.length; o++) {
                    ahead &= at[o] >= at[q];
                    only &= o == q || at[o] > at[q];
                }
                first[q] += ahead ? 1 : 0;
                alone[q] += only ? 1 : 0;
            }
            return 1;
        }
        long all = 0;
        for (at[p] = above[p] + 1; at[p] <= upTo[p]; at[p]++) {
            all += every(p + 1, at, above, upTo, first, alone);
        }
        return all;
    }
}

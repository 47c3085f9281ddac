import java.util.ArrayList;
import java.util.Collections;
import java.util.List;
import java.util.Random;

/** Promises 11 to 13: where a book stops, its states, and what is held in them. */
public final class DeedsTest {
    private static final int NONE = SpoonShort.NONE;
    private static final String THREE = "kinds 3;alike 2;person 1 2 1 3;person 2 3 0 5;person 1 1 2 0;";
    private static final String HEAP = "cards 0 1 0 1 0 1 2 2 1;";

    public static void main(String[] args) {
        aRound();
        cannotBe();
        touches();
        refills();
        wrongInputs();
        byChance();
        Check.finish();
    }

    private static SpoonShort with(String table, String heap, String book) {
        SpoonShort x = Check.fine(0, table);
        Check.due("heap " + heap, Check.tell(x, 1, heap), 0);
        Check.due("book " + book, Check.tell(x, 2, book), 0);
        return x;
    }

    private static void aRound() {
        SpoonShort x = with(THREE, HEAP, "take 0;hand 0 2;take 1;hand 1 1;pass 3;feint 2;reach 1;take 2;hand 2 0;"
            + "pass 9;reach 2;reach 0;reach 1;pass 1;");
        // PERSON 2 has 1 1 behind deed 9; he reaches with cause, PERSON 0 then too; PERSON 1 is LAST.
        Check.due("stop", x.stop(0, 0, 0), 12);
        int[][] states = {
            {0, 0, 0, 0, NONE, 0, 3, 0}, {5, 3, 0, NONE, 0, 2, 0, 0}, {6, 3, 0, NONE, 0, 2, 1, 0}, {9, 3, 0, NONE, 1, 2, 1, 0},
            {10, 12, 0, NONE, 1, 2, 1, 0}, {11, 12, 1, NONE, 1, 2, 1, 0}, {12, 12, 2, 1, 1, 2, 1, 0},
        };
        Check.due("tenths at first", x.state(0, 0, 0, 0, 0), 0);
        Check.due("heap at first", x.state(0, 0, 0, 0, 4), 3);
        for (int i = 1; i < states.length; i++) {
            int n = states[i][0];
            for (int what = 0; what < 6; what++) {
                Check.due("state " + n + " " + what, x.state(0, 0, 0, n, what), states[i][1 + what]);
            }
            Check.due("what 6", x.state(0, 0, 0, n, 6), -2);
        }
        Check.due("first spoon", x.state(0, 0, 0, 11, 10), 2);
        Check.due("second spoon", x.state(0, 0, 0, 11, 11), -2);
        Check.due("second spoon", x.state(0, 0, 0, 12, 11), 0);
        Check.due("third spoon", x.state(0, 0, 0, 12, 12), -2);
        Check.due("no letter yet", x.state(0, 0, 0, 6, 21), 0);
        Check.due("touched", x.state(0, 0, 0, 7, 21), 1);
        Check.due("touched and last", x.state(0, 0, 0, 12, 21), 2);
        Check.due("no letter", x.state(0, 0, 0, 12, 22), 0);
        Check.due("no such letters", x.state(0, 0, 0, 12, 23), -2);
        Check.due("one waits for 1", x.state(0, 0, 0, 2, 31), 1);
        Check.due("none waits for 1", x.state(0, 0, 0, 3, 31), 0);
        Check.due("the heap", x.state(0, 0, 0, 12, 30), 2);
        Check.due("no such wait", x.state(0, 0, 0, 12, 33), -2);
        Check.due("no such state", x.state(0, 0, 0, 13, 0), -2);
        Check.due("holds 3", x.holds(0, 0, 0, 1, 0, NONE), 3);
        Check.due("holds 2", x.holds(0, 0, 0, 2, 0, NONE), 2);
        Check.due("holds a 2", x.holds(0, 0, 0, 1, 0, 2), 1);
        Check.due("holds 1 1", x.holds(0, 0, 0, 12, 2, 1), 2);
        Check.due("holds 0 2", x.holds(0, 0, 0, 12, 1, 2), 1);
    }

    private static void cannotBe() {
        String[][] books = {
            {"take 3;", "0"}, {"reach 3;", "0"}, {"feint 3;", "0"}, {"hand 3 0;", "0"}, {"hand 0 0;", "0"},
            {"take 0;take 0;", "1"}, {"take 0;hand 0 3;", "1"}, {"take 0;hand 0 12;", "1"}, {"take 1;", "0"},
            {"take 0;hand 0 2;take 2;", "2"}, {"take 0;hand 0 1;hand 0 0;", "2"}, {"pass 1;feint 0;take 0;hand 1 0;", "3"},
            {"", "0"}, {"pass 9;pass 9;feint 2;", "3"},
            {"take 0;hand 0 2;take 0;hand 0 2;take 0;hand 0 1;take 0;", "6"},
        };
        for (String[] book : books) {
            SpoonShort x = with(THREE, HEAP, book[0]);
            int stop = Integer.parseInt(book[1]);
            Check.due("stop of " + book[0], x.stop(0, 0, 0), stop);
            Check.due("state of " + book[0], x.state(0, 0, 0, stop, 2), NONE);
            Check.due("no state of " + book[0], x.state(0, 0, 0, stop + 1, 2), -2);
        }
        // Behind the end nothing can be, not even what does nothing.
        String two = "kinds 2;alike 2;person 1 1 0 0;person 1 1 0 0;";
        for (String more : new String[] {"pass 1;", "feint 1;", "reach 1;", "take 0;", "reach 0;"}) {
            SpoonShort x = with(two, "cards 0 0 0 1 1;", "reach 0;" + more);
            Check.due("stop", x.stop(0, 0, 0), 1);
            Check.due("LAST", x.state(0, 0, 0, 1, 2), 1);
            Check.due("his letter", x.state(0, 0, 0, 1, 21), 1);
        }
    }

    private static void touches() {
        SpoonShort x = with(THREE, "cards 0 0 1 1 0 1 2;", "reach 2;reach 2;take 0;reach 0;hand 0 2;reach 0;reach 0;");
        // With one card more he has no cause; nor has he one as long as nobody has a spoon.
        Check.due("stop", x.stop(0, 0, 0), 6);
        Check.due("two letters", x.state(0, 0, 0, 2, 22), 2);
        Check.due("one letter", x.state(0, 0, 0, 4, 20), 1);
        Check.due("no spoon", x.state(0, 0, 0, 5, 1), 0);
        Check.due("a spoon", x.state(0, 0, 0, 6, 10), 0);
        x = with(THREE, "cards 0 0 1 1 0 1 2;", "reach 0;take 1;hand 1 1;");
        Check.due("none waits for him", x.stop(0, 0, 0), 1);
        // Anybody takes one if one is taken, with one card more, too; who has a spoon goes on passing.
        x = with(THREE, "cards 0 1 1 1 0 1 2 2;", "take 0;hand 0 2;take 1;reach 1;hand 1 2;reach 1;take 0;reach 0;pass 1;");
        Check.due("stop", x.stop(0, 0, 0), 8);
        Check.due("touched", x.state(0, 0, 0, 4, 21), 1);
        Check.due("takers", x.state(0, 0, 0, 8, 11), 0);
        Check.due("LAST", x.state(0, 0, 0, 8, 2), 2);
    }

    private static void refills() {
        String two = "kinds 3;alike 2;person 1 1 0 0;person 1 1 0 0;";
        SpoonShort x = with(two, "cards 0 1 0 1 2 0;", "take 0;hand 0 2;take 1;hand 1 2;take 0;hand 0 0;take 1;hand 1 0;take 0;"
            + "hand 0 1;take 0;hand 0 0;take 0;");
        Check.due("stop", x.stop(0, 0, 0), 12);
        Check.due("away", x.state(0, 0, 0, 8, 3), 2);
        Check.due("heap", x.state(0, 0, 0, 8, 4), 0);
        Check.due("away is the heap", x.state(0, 0, 0, 9, 3), 0);
        Check.due("one of it", x.state(0, 0, 0, 9, 4), 1);
        Check.due("the one longest away", x.holds(0, 0, 0, 9, 0, 2), 1);
        Check.due("then the other", x.holds(0, 0, 0, 11, 0, 0), 2);
    }

    private static void wrongInputs() {
        SpoonShort x = with(THREE, HEAP, "take 0;");
        Check.due("stop table", x.stop(1, 0, 0), NONE);
        Check.due("stop heap", x.stop(0, 1, 0), NONE);
        Check.due("stop book", x.stop(0, 0, 1), NONE);
        Check.due("stop book", x.stop(0, 0, -1), NONE);
        Check.due("state table", x.state(1, 0, 0, 0, 0), -2);
        Check.due("state heap", x.state(0, -1, 0, 0, 0), -2);
        Check.due("state book", x.state(0, 0, 2, 0, 0), -2);
        Check.due("state -1", x.state(0, 0, 0, -1, 0), -2);
        Check.due("state max", x.state(0, 0, 0, Integer.MAX_VALUE, 0), -2);
        for (int what : new int[] {-1, 6, 9, 10, 19, 23, 29, 33, 40, Integer.MAX_VALUE, Integer.MIN_VALUE}) {
            Check.due("state what " + what, x.state(0, 0, 0, 1, what), -2);
        }
        Check.due("holds person", x.holds(0, 0, 0, 0, 3, 0), -2);
        Check.due("holds person", x.holds(0, 0, 0, 0, -1, 0), -2);
        Check.due("holds kind", x.holds(0, 0, 0, 0, 0, 3), -2);
        Check.due("holds kind", x.holds(0, 0, 0, 0, 0, -2), -2);
        Check.due("holds state", x.holds(0, 0, 0, 2, 0, 0), -2);
        Check.due("holds state", x.holds(0, 0, 0, -1, 0, 0), -2);
        Check.due("holds book", x.holds(0, 0, 1, 0, 0, 0), -2);
        Check.due("a heap that does not fit", Check.tell(x, 1, 0, "cards 0 1 0 1 0 1;"), 0);
        Check.due("stop", x.stop(0, 0, 0), NONE);
        Check.due("state", x.state(0, 0, 0, 0, 0), -2);
        Check.due("holds", x.holds(0, 0, 0, 0, 0, NONE), -2);
    }

    private static void byChance() {
        Random r = new Random(3);
        for (int i = 0; i < 2000; i++) {
            Naive t = Naive.byChance(r, 4, 4);
            List<Integer> heap = t.pack();
            Collections.shuffle(heap, r);
            int size = Math.min(heap.size(), t.people.size() * t.alike + 1 + r.nextInt(2));
            play(t, new ArrayList<>(heap.subList(0, size)), r);
        }
    }

    /** Deeds by chance, most of which can be; each state is looked at. */
    private static void play(Naive t, List<Integer> heap, Random r) {
        StringBuilder book = new StringBuilder();
        Naive.Lie lie = new Naive.Lie(t, heap);
        int n = t.people.size();
        List<Integer> takers = new ArrayList<>();
        int[] letters = new int[n];
        List<int[]> states = new ArrayList<>();
        int tenths = 0;
        int feints = 0;
        boolean can = true;
        for (int k = 0; k < 40; k++) {
            if (can) {
                states.add(state(t, lie, takers, letters, tenths, feints));
            }
            int p = r.nextInt(50) == 0 ? n : r.nextInt(n);
            int deed = r.nextInt(14);
            boolean over = takers.size() == n - 1;
            boolean there = p < n && !over;
            int size = there ? lie.hands.get(p).size() : 0;
            if (deed < 9) {
                if (size == t.alike || r.nextInt(30) == 0) {
                    book.append("take ").append(p).append(';');
                    can &= there && size == t.alike && lie.take(p) != NONE;
                } else {
                    int kind = there && r.nextInt(20) > 0 ? lie.hands.get(p).get(r.nextInt(size)) : r.nextInt(13);
                    book.append("hand ").append(p).append(' ').append(kind).append(';');
                    can &= there && size == t.alike + 1 && lie.hands.get(p).contains(kind);
                    if (can) {
                        lie.handOn(p, kind);
                    }
                }
            } else if (deed < 11) {
                book.append("reach ").append(p).append(';');
                can &= there && !takers.contains(p);
                if (can && (!takers.isEmpty() || lie.alike(p))) {
                    takers.add(p);
                } else if (can) {
                    letters[p]++;
                }
                if (can && takers.size() == n - 1) {
                    for (int q = 0; q < n; q++) {
                        letters[q] += takers.contains(q) ? 0 : 1;
                    }
                }
            } else if (deed < 13) {
                book.append("pass 3;");
                can &= !over;
                tenths += 3;
            } else {
                book.append("feint ").append(p).append(';');
                can &= there;
                feints++;
            }
        }
        if (can) {
            states.add(state(t, lie, takers, letters, tenths, feints));
        }
        String name = t.text() + heap + book;
        SpoonShort x = with(t.text(), Naive.cardsText("cards", heap), book.toString());
        Check.due(name, x.stop(0, 0, 0), states.size() - 1);
        for (int s = 0; s < states.size(); s += 1 + r.nextInt(5)) {
            same(name, x, t, s, states.get(s));
        }
        Check.due(name, x.state(0, 0, 0, states.size(), 0), -2);
    }

    private static int[] state(Naive t, Naive.Lie lie, List<Integer> takers, int[] letters, int tenths, int feints) {
        int n = t.people.size();
        int last = NONE;
        for (int p = 0; p < n && takers.size() == n - 1; p++) {
            last = takers.contains(p) ? last : p;
        }
        int[] all = new int[6 + n * 4 + n * 13];
        int[] first = {tenths, takers.size(), last, lie.ways.get(n).size(), lie.ways.get(0).size(), feints};
        System.arraycopy(first, 0, all, 0, 6);
        for (int p = 0; p < n; p++) {
            all[6 + p] = p < takers.size() ? takers.get(p) : -2;
            all[6 + n + p] = letters[p];
            all[6 + 2 * n + p] = lie.ways.get(p).size();
            all[6 + 3 * n + p] = lie.hands.get(p).size();
            for (int kind = 0; kind < 13; kind++) {
                all[6 + 4 * n + p * 13 + kind] = Collections.frequency(lie.hands.get(p), kind);
            }
        }
        return all;
    }

    private static void same(String name, SpoonShort x, Naive t, int s, int[] want) {
        int n = t.people.size();
        for (int what = 0; what < 6; what++) {
            Check.due(name + " " + s + " " + what, x.state(0, 0, 0, s, what), want[what]);
        }
        for (int p = 0; p < n; p++) {
            for (int row = 0; row < 3; row++) {
                Check.due(name + " " + s + " " + row + p, x.state(0, 0, 0, s, 10 + 10 * row + p), want[6 + row * n + p]);
            }
            Check.due(name + " holds", x.holds(0, 0, 0, s, p, NONE), want[6 + 3 * n + p]);
            for (int kind = 0; kind < t.kinds; kind++) {
                Check.due(name + " holds " + kind, x.holds(0, 0, 0, s, p, kind), want[6 + 4 * n + p * 13 + kind]);
            }
        }
    }
}

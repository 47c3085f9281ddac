import java.math.BigInteger;
import java.util.ArrayList;
import java.util.Collections;
import java.util.LinkedList;
import java.util.List;
import java.util.Random;

/** The document's words once more, in another and slower form, for tables made by chance. */
final class Naive {
    static final int NONE = SpoonShort.NONE;

    static final class Person {
        int pace = 1;
        int eyes = 1;
        int quick;
        int far;
        int law;
        int kind = NONE;
        boolean jumpy;

        Person copy() {
            Person p = new Person();
            p.pace = pace;
            p.eyes = eyes;
            p.quick = quick;
            p.far = far;
            p.law = law;
            p.kind = kind;
            p.jumpy = jumpy;
            return p;
        }
    }

    int kinds = 4;
    int copies = 4;
    int alike = 4;
    int letters = 1;
    int out = 3;
    final List<Person> people = new ArrayList<>();

    static Naive byChance(Random r, int mostKinds, int mostPeople) {
        while (true) {
            Naive t = new Naive();
            t.kinds = 2 + r.nextInt(mostKinds - 1);
            t.copies = r.nextInt(4) == 0 ? 1 + r.nextInt(4) : 4;
            t.alike = 2 + r.nextInt(3);
            t.letters = 1 + r.nextInt(4);
            t.out = r.nextInt(10);
            int n = 2 + r.nextInt(mostPeople - 1);
            boolean alikePaces = r.nextBoolean();
            for (int i = 0; i < n; i++) {
                Person p = new Person();
                p.pace = alikePaces ? 1 + r.nextInt(2) : 1 + r.nextInt(9);
                p.eyes = 1 + r.nextInt(9);
                p.quick = r.nextInt(10);
                p.far = r.nextInt(21);
                p.law = r.nextInt(4);
                p.kind = p.law == 1 || p.law == 2 ? r.nextInt(t.kinds) : NONE;
                p.jumpy = r.nextBoolean();
                t.people.add(p);
            }
            if (t.kinds * t.copies > n * t.alike) {
                return t;
            }
        }
    }

    String text() {
        StringBuilder b = new StringBuilder();
        b.append("kinds ").append(kinds).append(";copies ").append(copies).append(";alike ").append(alike);
        b.append(";letters ").append(letters).append(";out ").append(out).append(';');
        for (int i = 0; i < people.size(); i++) {
            Person p = people.get(i);
            b.append("person ").append(p.pace).append(' ').append(p.eyes).append(' ').append(p.quick).append(' ').append(p.far);
            b.append(';');
            String[] laws = {"most", "aim", "keep", "never"};
            b.append("law ").append(i).append(' ').append(laws[p.law]);
            b.append(p.law == 1 || p.law == 2 ? " " + p.kind : "").append(';');
            b.append(p.jumpy ? "jumpy " + i + ";" : "");
        }
        return b.toString();
    }

    static String cardsText(String word, List<Integer> cards) {
        StringBuilder b = new StringBuilder();
        if (!cards.isEmpty()) {
            b.append(word);
            for (int c : cards) {
                b.append(' ').append(c);
            }
            b.append(';');
        }
        return b.toString();
    }

    Naive with(List<Person> others) {
        Naive t = new Naive();
        t.kinds = kinds;
        t.copies = copies;
        t.alike = alike;
        t.letters = letters;
        t.out = out;
        for (Person p : others) {
            t.people.add(p.copy());
        }
        return t;
    }

    List<Integer> pack() {
        List<Integer> pack = new ArrayList<>();
        for (int k = 0; k < kinds; k++) {
            for (int i = 0; i < copies; i++) {
                pack.add(k);
            }
        }
        return pack;
    }

    /** Cards as they lie and wait. */
    static final class Lie {
        final Naive t;
        final List<List<Integer>> hands = new ArrayList<>();
        final List<LinkedList<Integer>> ways = new ArrayList<>();

        Lie(Naive t, List<Integer> heap) {
            this.t = t;
            LinkedList<Integer> all = new LinkedList<>(heap);
            for (int p = 0; p < t.people.size(); p++) {
                hands.add(new ArrayList<>());
                ways.add(new LinkedList<>());
                for (int i = 0; i < t.alike; i++) {
                    hands.get(p).add(all.removeFirst());
                }
            }
            ways.add(new LinkedList<>());
            ways.get(0).addAll(all);
        }

        int take(int p) {
            if (p == 0 && ways.get(0).isEmpty()) {
                ways.get(0).addAll(ways.get(t.people.size()));
                ways.get(t.people.size()).clear();
            }
            if (ways.get(p).isEmpty()) {
                return NONE;
            }
            int card = ways.get(p).removeFirst();
            hands.get(p).add(card);
            return card;
        }

        void handOn(int p, int kind) {
            hands.get(p).remove(Integer.valueOf(kind));
            ways.get(p + 1).addLast(kind);
        }

        boolean alike(int p) {
            List<Integer> hand = hands.get(p);
            return hand.size() == t.alike && Collections.frequency(hand, hand.get(0)) == hand.size();
        }
    }

    static final class Round {
        final Lie lie;
        final int[] handed;
        int first = NONE;
        int tenth = 0;

        Round(Naive t, List<Integer> heap, int until) {
            lie = new Lie(t, heap);
            int n = t.people.size();
            handed = new int[n];
            for (int p = n - 1; p >= 0; p--) {
                first = lie.alike(p) ? p : first;
            }
            while (first == NONE && tenth < until) {
                tenth++;
                for (int p = 0; p < n && first == NONE; p++) {
                    if (tenth % t.people.get(p).pace != 0) {
                        continue;
                    }
                    int took = lie.take(p);
                    if (took != NONE) {
                        lie.handOn(p, law(t.people.get(p), lie.hands.get(p), took));
                        handed[p]++;
                        first = lie.alike(p) ? p : first;
                    }
                }
            }
        }

        private static int law(Person p, List<Integer> hand, int took) {
            List<Integer> may = new ArrayList<>(hand);
            if (p.law == 1 || p.law == 2) {
                may.removeAll(List.of(p.kind));
                if (may.isEmpty()) {
                    return p.kind;
                }
            }
            if (p.law == 3) {
                return took;
            }
            if (p.law == 1) {
                return Collections.max(may);
            }
            int best = may.get(0);
            for (int kind : may) {
                int a = Collections.frequency(may, kind);
                int b = Collections.frequency(may, best);
                if (a < b || a == b && kind > best) {
                    best = kind;
                }
            }
            return best;
        }
    }

    int spoon(int p, int first, int tenth) {
        Person one = people.get(p);
        int at = tenth;
        if (p != first) {
            at++;
            while (at % one.eyes != 0) {
                at++;
            }
        }
        return at + one.quick + one.far;
    }

    int last(int first, int tenth) {
        int last = people.size() - 1;
        for (int p = people.size() - 2; p >= 0; p--) {
            if (spoon(p, first, tenth) > spoon(last, first, tenth)) {
                last = p;
            }
        }
        return last;
    }

    int mends(List<Integer> heap) {
        for (int p = 0; p < people.size(); p++) {
            Naive t = with(people);
            t.people.get(p).law = 0;
            if (new Round(t, heap, 2000).first != NONE) {
                return p;
            }
        }
        return NONE;
    }

    /** Numbers by a seed, worked out with big numbers. */
    static final class Drawn {
        private BigInteger x;

        Drawn(int seed) {
            x = BigInteger.valueOf(seed & 0xffffffffL);
        }

        int below(int n) {
            x = x.multiply(BigInteger.valueOf(1103515245)).add(BigInteger.valueOf(12345)).mod(BigInteger.ONE.shiftLeft(32));
            return x.shiftRight(16).mod(BigInteger.valueOf(n)).intValue();
        }

        List<Integer> shuffled(List<Integer> pack) {
            for (int i = pack.size() - 1; i > 0; i--) {
                Collections.swap(pack, i, below(i + 1));
            }
            return pack;
        }
    }

    /** FIRST, LAST of k rounds. */
    int[][] luck(int seed, int k) {
        Drawn drawn = new Drawn(seed);
        int[][] rounds = new int[k][];
        for (int i = 0; i < k; i++) {
            Round r = new Round(this, drawn.shuffled(pack()), 2000);
            rounds[i] = new int[] {r.first, r.first == NONE ? NONE : last(r.first, r.tenth)};
        }
        return rounds;
    }

    static int times(int[][] rounds, int which, int who) {
        int many = 0;
        for (int[] r : rounds) {
            many += r[which] == who ? 1 : 0;
        }
        return many;
    }

    /** The table, if one were otherwise; null for no such value. */
    Naive otherwise(int person, int sort, int value) {
        Naive t = with(people);
        Person p = t.people.get(person);
        if (value < (sort < 2 ? 1 : 0)) {
            return null;
        }
        int[] most = {9, 9, 9, 20, 3, people.size() - 1};
        if (value > most[sort]) {
            return null;
        }
        if (sort == 0) {
            p.pace = value;
        } else if (sort == 1) {
            p.eyes = value;
        } else if (sort == 2) {
            p.quick = value;
        } else if (sort == 3) {
            p.far = value;
        } else if (sort == 4) {
            p.law = value;
            p.kind = p.kind == NONE ? 0 : p.kind;
        } else {
            t.people.remove(person);
            t.people.add(value, p);
        }
        return t;
    }

    int lasts(int person, int first) {
        int many = 0;
        for (int t = 0; t < 60; t++) {
            many += last(first, t) == person ? 1 : 0;
        }
        return many;
    }

    int cost(int person, int[] eyes) {
        Naive t = with(people);
        for (int p = 0; p < eyes.length; p++) {
            t.people.get(p).eyes = eyes[p];
        }
        int all = 20 * eyes.length / eyes[person];
        for (int first = 0; first < eyes.length; first++) {
            all += first == person ? 0 : t.lasts(person, first);
        }
        return all;
    }

    int[] way(int number) {
        int[] eyes = new int[people.size()];
        for (int p = eyes.length - 1; p >= 0; p--) {
            eyes[p] = number % 3 + 1;
            number /= 3;
        }
        return eyes;
    }

    List<Integer> rests() {
        List<Integer> rests = new ArrayList<>();
        int ways = (int) Math.round(Math.pow(3, people.size()));
        for (int w = 0; w < ways; w++) {
            boolean rest = true;
            for (int p = 0; p < people.size() && rest; p++) {
                int own = cost(p, way(w));
                for (int e = 1; e <= 3; e++) {
                    int[] eyes = way(w);
                    eyes[p] = e;
                    rest &= cost(p, eyes) >= own;
                }
            }
            if (rest) {
                rests.add(w);
            }
        }
        return rests;
    }
}

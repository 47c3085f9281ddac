import java.util.ArrayList;
import java.util.Collections;
import java.util.HashSet;
import java.util.List;
import java.util.Random;
import java.util.Set;
import java.util.TreeMap;
import java.util.regex.Matcher;
import java.util.regex.Pattern;

/**
 * Promises 4 to 8, 10, 20, 32 with texts made by chance, more than half of them with a FAULT: the reader against a second
 * one, which knows the grammar of each sort as one regular expression over tokens.
 */
public final class TextsByChanceTest {
    private static final int NONE = SpoonShort.NONE;
    private static final Pattern TOKEN = Pattern.compile("[a-z]+|[0-9]+|[^ \\n]");
    private static final String[] LAWS = {"most", "aim", "keep", "never"};
    private static final String[] DEEDS = {"take", "hand", "reach", "feint", "pass"};
    private static final String[] NUMBERS = {"kinds", "copies", "alike", "letters", "out"};
    private static final int[] LEAST = {2, 1, 2, 1, 0};
    private static final int[] MOST = {13, 4, 4, 9, 9};
    /** Each token is one sign: a word's is its place among these, behind 'A'. */
    private static final List<String> WORDS = List.of("kinds", "copies", "alike", "letters", "out", "jumpy", "person", "law", "most",
        "aim", "keep", "never", "cards", "take", "hand", "reach", "feint", "pass", "hold", "gone", "frame");
    private static final Pattern[] GRAMMARS = {
        Pattern.compile("(?:[A-F]#;|G####;|H#(?:I|J#|K#|L);)*"),
        Pattern.compile("(?:M#+;)*"),
        Pattern.compile("(?:[NPQR]#;|O##;)*"),
        Pattern.compile("(?:[ST]#+;)*"),
        Pattern.compile("(?:U#+;)*"),
    };

    public static void main(String[] args) {
        int[] faults = new int[5];
        Random r = new Random(7);
        for (int run = 0; run < 30000; run++) {
            int sort = r.nextInt(5);
            String text = spoil(r, made(r, sort));
            if (text.length() <= 600) {
                faults[new TextsByChanceTest(sort, text).check()]++;
            }
        }
        for (int fault = 0; fault < 5; fault++) {
            Check.due("there are texts with FAULT " + fault, faults[fault] > 150, true);
        }
        Check.finish();
    }

    // ---- texts by chance

    private static String number(Random r, int least, int most) {
        if (r.nextInt(150) == 0) {
            return String.valueOf(r.nextInt(101));
        }
        int number = r.nextInt(80) == 0 ? most + 1 : r.nextInt(80) == 0 ? Math.max(0, least - 1) : least + r.nextInt(most - least + 1);
        return number < 10 && r.nextInt(20) == 0 ? "0" + number : String.valueOf(number);
    }

    private static String made(Random r, int sort) {
        StringBuilder text = new StringBuilder();
        switch (sort) {
            case 0:
                return table(r);
            case 1:
                return row(r, "cards", r.nextInt(4) == 0 ? 50 + r.nextInt(5) : r.nextInt(30), 12);
            case 2:
                int deeds = r.nextInt(4) == 0 ? 38 + r.nextInt(5) : r.nextInt(20);
                for (int i = 0; i < deeds; i++) {
                    int deed = r.nextInt(5);
                    text.append(DEEDS[deed]).append(' ').append(deed == 4 ? number(r, 1, 9) : number(r, 0, 5));
                    text.append(deed == 1 ? " " + number(r, 0, 12) : "").append(';');
                }
                return text.toString();
            case 3:
                String gone = row(r, "gone", r.nextInt(4) == 0 ? 46 + r.nextInt(5) : r.nextInt(20), 12);
                int half = gone.indexOf(';') + 1;
                return gone.substring(0, half) + row(r, "hold", r.nextInt(6), 12) + gone.substring(half);
            default:
                int frames = r.nextInt(3) == 0 ? 8 + r.nextInt(4) : r.nextInt(8);
                int tenth = r.nextInt(5);
                for (int i = 0; i < frames; i++) {
                    text.append("frame ").append(r.nextInt(40) == 0 ? number(r, 0, 99) : String.valueOf(tenth % 100));
                    tenth += 1 + r.nextInt(11);
                    List<Integer> who = new ArrayList<>(List.of(0, 1, 2, 3, 4, 5));
                    Collections.shuffle(who, r);
                    for (int k = r.nextInt(7); k > 0; k--) {
                        text.append(' ').append(r.nextInt(60) == 0 ? number(r, 0, 5) : String.valueOf(who.get(k - 1)));
                    }
                    text.append(';');
                }
                return text.toString();
        }
    }

    private static String row(Random r, String word, int many, int most) {
        StringBuilder text = new StringBuilder();
        boolean open = false;
        for (int i = 0; i < many; i++) {
            text.append(open ? " " : word + " ").append(number(r, 0, most));
            open = i + 1 < many && r.nextInt(8) > 0;
            text.append(open ? "" : ";");
        }
        return text.toString();
    }

    private static String table(Random r) {
        List<String> lines = new ArrayList<>();
        int people = r.nextInt(8);
        int kinds = 2 + r.nextInt(12);
        for (int what = 0; what < NUMBERS.length; what++) {
            if (r.nextBoolean()) {
                lines.add(NUMBERS[what] + " " + (what == 0 ? String.valueOf(kinds) : number(r, LEAST[what], MOST[what])) + ";");
            }
        }
        for (int p = 0; p < people; p++) {
            lines.add("person " + number(r, 1, 9) + " " + number(r, 1, 9) + " " + number(r, 0, 9) + " " + number(r, 0, 20) + ";");
        }
        for (int i = r.nextInt(4); i > 0; i--) {
            int law = r.nextInt(4);
            String kind = law == 1 || law == 2 ? " " + number(r, 0, kinds - 1) : "";
            lines.add("law " + number(r, 0, Math.max(0, people - 1)) + " " + LAWS[law] + kind + ";");
        }
        for (int i = r.nextInt(3); i > 0; i--) {
            lines.add("jumpy " + number(r, 0, Math.max(0, people - 1)) + ";");
        }
        if (r.nextBoolean()) {
            Collections.shuffle(lines, r);
        }
        return String.join("", lines);
    }

    /** Other blanks, and now and then bytes that are changed, gone, further ones, or a part of the text once more. */
    private static String spoil(Random r, String text) {
        StringBuilder b = new StringBuilder(text);
        for (int i = r.nextInt(3); i > 0; i--) {
            int at = b.indexOf(r.nextBoolean() ? " " : ";", r.nextInt(b.length() + 1));
            if (at >= 0) {
                b.insert(at + r.nextInt(2), r.nextBoolean() ? "\n" : "  ");
            }
        }
        String odd = "abz059 ;\n\t\r`{/:A\0\u0080\u00ff";
        for (int i = Math.max(0, r.nextInt(8) - 5); i > 0 && b.length() > 0; i--) {
            int at = r.nextInt(b.length());
            int until = Math.min(b.length(), at + r.nextInt(30));
            switch (r.nextInt(5)) {
                case 0 -> b.setCharAt(at, odd.charAt(r.nextInt(odd.length())));
                case 1 -> b.deleteCharAt(at);
                case 2 -> b.insert(at, odd.charAt(r.nextInt(odd.length())));
                case 3 -> b.setLength(at);
                default -> b.insert(at, b.substring(at, until));
            }
        }
        return b.toString();
    }

    // ---- the second reader

    private final int sort;
    private final String text;
    private final List<String> tokens = new ArrayList<>();
    private final List<Integer> places = new ArrayList<>();
    /** By place and, of one place, by FAULT. */
    private final TreeMap<Integer, Integer> faults = new TreeMap<>();
    private final int[] numbers = {4, 4, 4, 1, 3};
    private final List<int[]> people = new ArrayList<>();
    private final TreeMap<Integer, int[]> laws = new TreeMap<>();
    private final Set<Integer> jumpy = new HashSet<>();
    private final Set<Integer> toldPeople = new HashSet<>();
    private final Set<Integer> toldKinds = new HashSet<>();
    private final List<Integer> cards = new ArrayList<>();
    private final List<Integer> gone = new ArrayList<>();
    private final List<int[]> lines = new ArrayList<>();
    private int at;

    private TextsByChanceTest(int sort, String text) {
        this.sort = sort;
        this.text = text;
    }

    private int check() {
        SpoonShort x = new SpoonShort();
        int fault = 0;
        int place = firstThatDoesNotGoOn();
        if (place != NONE) {
            fault = 1;
        } else {
            readLines();
            if (faults.isEmpty() && sort == 0 && !stands()) {
                note(text.length(), 4);
            }
            if (!faults.isEmpty()) {
                place = faults.firstKey();
                fault = faults.get(place);
            }
        }
        Check.due("text of sort " + sort + ": " + text, Check.tell(x, sort, text), fault == 0 ? 0 : NONE);
        Check.due("fault(0) of: " + text, x.fault(0), fault);
        Check.due("fault(1) of: " + text, x.fault(1), place);
        Check.due("count of sort " + sort + " behind: " + text, x.count(sort), fault == 0 ? 1 : 0);
        if (fault == 0) {
            answers(x);
        }
        return fault;
    }

    private int firstThatDoesNotGoOn() {
        Matcher m = TOKEN.matcher(text);
        StringBuilder signs = new StringBuilder();
        while (m.find()) {
            tokens.add(m.group());
            places.add(m.start());
            signs.append(sign(m.group()));
            Matcher prefix = GRAMMARS[sort].matcher(signs);
            if (!prefix.matches() && !prefix.hitEnd()) {
                return m.start();
            }
        }
        return GRAMMARS[sort].matcher(signs).matches() ? NONE : text.length();
    }

    private static char sign(String token) {
        if (WORDS.contains(token)) {
            return (char) ('A' + WORDS.indexOf(token));
        }
        if (token.equals(";")) {
            return ';';
        }
        return token.matches("[0-9]{1,2}") ? '#' : '?';
    }

    private void note(int place, int fault) {
        faults.merge(place, fault, Math::min);
    }

    /** The next NUMBER, which should be one of these. */
    private int next(int least, int most) {
        int number = Integer.parseInt(tokens.get(at));
        if (number < least || number > most) {
            note(places.get(at), 2);
        }
        at++;
        return number;
    }

    private void readLines() {
        while (at < tokens.size()) {
            String word = tokens.get(at);
            int first = places.get(at);
            at++;
            switch (word) {
                case "person" -> readPerson(first);
                case "law" -> readLaw();
                case "jumpy" -> {
                    toldPeople.add(next(0, 5));
                    jumpy.add(Integer.parseInt(tokens.get(at - 1)));
                }
                case "cards" -> readCards(cards, 52);
                case "hold" -> readCards(cards, 4);
                case "gone" -> readCards(gone, 48);
                case "frame" -> readFrame(first);
                default -> readOther(word, first);
            }
            at++;
        }
    }

    private void readPerson(int first) {
        if (people.size() >= 6) {
            note(first, 3);
        }
        people.add(new int[] {next(1, 9), next(1, 9), next(0, 9), next(0, 20)});
    }

    private void readLaw() {
        int who = next(0, 5);
        int law = List.of(LAWS).indexOf(tokens.get(at));
        at++;
        int kind = law == 1 || law == 2 ? next(0, 12) : NONE;
        toldPeople.add(who);
        if (kind != NONE) {
            toldKinds.add(kind);
        }
        laws.put(who, new int[] {law, kind});
    }

    private void readCards(List<Integer> told, int most) {
        while (!tokens.get(at).equals(";")) {
            if (told.size() >= most) {
                note(places.get(at), 3);
            }
            told.add(next(0, 12));
        }
    }

    private void readFrame(int first) {
        if (lines.size() >= 10) {
            note(first, 3);
        }
        int ahead = lines.isEmpty() ? -1 : lines.get(lines.size() - 1)[0];
        int tenth = next(ahead + 1, 99);
        Set<Integer> who = new HashSet<>();
        int bits = 0;
        while (!tokens.get(at).equals(";")) {
            int one = next(0, 5);
            if (!who.add(one)) {
                note(places.get(at - 1), 2);
            }
            bits |= 1 << one;
        }
        lines.add(new int[] {tenth, bits});
    }

    private void readOther(String word, int first) {
        int what = List.of(NUMBERS).indexOf(word);
        if (what >= 0) {
            numbers[what] = next(LEAST[what], MOST[what]);
            return;
        }
        if (lines.size() >= 40) {
            note(first, 3);
        }
        int deed = List.of(DEEDS).indexOf(word);
        int number = deed == 4 ? next(1, 9) : next(0, 5);
        lines.add(new int[] {deed, number, deed == 1 ? next(0, 12) : NONE});
    }

    private boolean stands() {
        boolean all = people.size() >= 2 && numbers[0] * numbers[1] > people.size() * numbers[2];
        for (int who : toldPeople) {
            all &= who < people.size();
        }
        for (int kind : toldKinds) {
            all &= kind < numbers[0];
        }
        return all;
    }

    private void answers(SpoonShort x) {
        switch (sort) {
            case 0 -> answersOfTable(x);
            case 1 -> {
                Check.due("CARDS of: " + text, x.card(0, NONE), cards.size());
                for (int k = 0; k < cards.size(); k++) {
                    Check.due("CARD " + k + " of: " + text, x.card(0, k), cards.get(k));
                }
            }
            case 3 -> {
                Check.due("HOLDS of: " + text, x.hand(0, 0), cards.size());
                Check.due("GONE of: " + text, x.hand(0, 1), gone.size());
                for (int i = 0; i < cards.size(); i++) {
                    Check.due("held " + i + " of: " + text, x.hand(0, 10 + i), cards.get(i));
                }
                for (int i = 0; i < gone.size(); i++) {
                    Check.due("gone " + i + " of: " + text, x.hand(0, 100 + i), gone.get(i));
                }
            }
            default -> {
                Check.due("lines of: " + text, sort == 2 ? x.deed(0, NONE, 0) : x.frame(0, NONE, 0), lines.size());
                for (int k = 0; k < lines.size(); k++) {
                    for (int what = 0; what < lines.get(k).length; what++) {
                        int got = sort == 2 ? x.deed(0, k, what) : x.frame(0, k, what);
                        Check.due("line " + k + ", " + what + ", of: " + text, got, lines.get(k)[what]);
                    }
                }
            }
        }
    }

    private void answersOfTable(SpoonShort x) {
        for (int what = 0; what < 5; what++) {
            Check.due("table " + what + " of: " + text, x.table(0, what), numbers[what]);
        }
        Check.due("PEOPLE of: " + text, x.table(0, 5), people.size());
        for (int p = 0; p < people.size(); p++) {
            int[] law = laws.getOrDefault(p, new int[] {0, NONE});
            int[] told = people.get(p);
            int[] want = {told[0], told[1], told[2], told[3], law[0], law[1], jumpy.contains(p) ? 1 : 0};
            for (int what = 0; what < want.length; what++) {
                Check.due("person " + p + ", " + what + ", of: " + text, x.person(0, p, what), want[what]);
            }
        }
    }
}

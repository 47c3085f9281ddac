import java.util.Arrays;

/** One spoon too few: tables, heaps, books, hands and films told as texts, and what is asked of them. */
public final class SpoonShort {
    /** There is none. */
    public static final int NONE = -1;

    // What is answered where NONE is an answer of its own.
    private static final int MISSING = -2;

    private static final int TABLES = 0;
    private static final int HEAPS = 1;
    private static final int BOOKS = 2;
    private static final int HANDS = 3;
    private static final int FILMS = 4;
    private static final int SORTS = 5;
    private static final int TEXTS_OF_A_SORT = 2;
    private static final int IMAGES = 3;

    private static final int TAPE_BYTES = 600;
    private static final int FED_BYTES = 20;
    private static final int MOST_PEOPLE = 6;
    private static final int MOST_KINDS = 13;
    private static final int MOST_CARDS = 52;
    private static final int MOST_DEEDS = 40;
    private static final int MOST_HELD = 4;
    private static final int MOST_GONE = 48;
    private static final int MOST_FRAMES = 10;
    private static final int LAST_TENTH = 2000;
    private static final int LAST_TENTH_OF_A_FILM = 99;
    private static final int LOOKED_AT = 60;
    private static final int MOST_ROUNDS = 20;

    // A table's numbers, as table() asks for them.
    private static final int KINDS = 0;
    private static final int COPIES = 1;
    private static final int ALIKE = 2;
    private static final int LETTERS = 3;
    private static final int OUTSTRETCHED = 4;
    private static final int PEOPLE = 5;
    private static final int TABLE_NUMBERS = 6;

    // The numbers of one of PEOPLE, as person() asks for them.
    private static final int PACE = 0;
    private static final int EYES = 1;
    private static final int QUICK = 2;
    private static final int FAR = 3;
    private static final int LAW = 4;
    private static final int LAW_KIND = 5;
    private static final int JUMPY = 6;
    private static final int PERSON_NUMBERS = 7;
    // Not a number of his, but otherwise() changes it just as these.
    private static final int PLACE = 5;

    private static final int MOST = 0;
    private static final int AIM = 1;
    private static final int KEEP = 2;
    private static final int NEVER = 3;

    // Deeds, as deed() answers them, and how many numbers a book keeps of each.
    private static final int TAKE = 0;
    private static final int HAND_ON = 1;
    private static final int REACH = 2;
    private static final int FEINT = 3;
    private static final int PASS = 4;
    private static final int DEED_NUMBERS = 3;

    private final Told told = new Told();
    private final Told[] images = {new Told(), new Told(), new Told()};
    private final Row imaged = new Row(IMAGES);
    private final Reader reader = new Reader();
    private final Deeds deeds = new Deeds();
    private final Rounds rounds = new Rounds();
    private final Evenings evenings = new Evenings();
    private final Odds odds = new Odds();
    private final Looks lookers = new Looks();

    public SpoonShort() {
        imaged.fill(IMAGES, 0);
    }

    public int feed(int a, int b, int c, int d, int e) {
        if (told.tape.size() + FED_BYTES > TAPE_BYTES) {
            return NONE;
        }
        write(a);
        write(b);
        write(c);
        write(d);
        write(e);
        return told.tape.size();
    }

    private void write(int number) {
        for (int shift = 24; shift >= 0; shift -= 8) {
            told.tape.push((number >>> shift) & 255);
        }
    }

    public int end(int n) {
        if (n < 0 || n > told.tape.size()) {
            return NONE;
        }
        told.tape.cut(n);
        return n;
    }

    public int text(int sort, int at) {
        int there = told.howMany(sort);
        int slot = at == NONE ? there : at;
        told.fault = 0;
        told.place = NONE;
        if (there == MISSING || slot < 0 || slot >= TEXTS_OF_A_SORT || at >= there) {
            told.tape.clear();
            return MISSING;
        }
        reader.read(told.tape, sort);
        told.tape.clear();
        told.fault = reader.fault;
        told.place = reader.place;
        if (told.fault != 0) {
            return NONE;
        }
        told.keep(sort, slot, reader.sheet);
        return slot;
    }

    public int fault(int what) {
        if (what == 0) {
            return told.fault;
        }
        return what == 1 ? told.place : NONE;
    }

    public int table(int table, int what) {
        Table t = tableAt(table);
        return t == null || what < 0 || what >= TABLE_NUMBERS ? NONE : t.number(what);
    }

    public int person(int table, int person, int what) {
        Table t = tableAt(table);
        if (t == null || !t.has(person) || what < 0 || what >= PERSON_NUMBERS) {
            return MISSING;
        }
        return t.of(person, what);
    }

    public int card(int heap, int k) {
        Row cards = heapAt(heap);
        if (cards == null) {
            return MISSING;
        }
        if (k == NONE) {
            return cards.size();
        }
        return cards.reaches(k) ? cards.get(k) : MISSING;
    }

    public int fits(int table, int heap) {
        Table t = tableAt(table);
        Row cards = heapAt(heap);
        if (t == null || cards == null) {
            return NONE;
        }
        return t.suits(cards) ? 1 : 0;
    }

    public int deed(int book, int k, int what) {
        Row lines = bookAt(book);
        if (lines == null) {
            return MISSING;
        }
        int many = lines.size() / DEED_NUMBERS;
        if (k == NONE) {
            return what == 0 ? many : MISSING;
        }
        if (k < 0 || k >= many || what < 0 || what >= DEED_NUMBERS) {
            return MISSING;
        }
        return lines.get(k * DEED_NUMBERS + what);
    }

    public int stop(int table, int heap, int book) {
        Table t = tableAt(table);
        Row cards = heapAt(heap);
        Row lines = bookAt(book);
        if (t == null || cards == null || lines == null || !t.suits(cards)) {
            return NONE;
        }
        return deeds.play(t, cards, lines, MOST_DEEDS);
    }

    public int state(int table, int heap, int book, int n, int what) {
        return comesTo(table, heap, book, n) ? deeds.answer(what) : MISSING;
    }

    public int holds(int table, int heap, int book, int n, int person, int kind) {
        Table t = tableAt(table);
        if (t == null || !t.has(person) || !comesTo(table, heap, book, n)) {
            return MISSING;
        }
        if (kind == NONE) {
            return deeds.deal.holdsCards(person);
        }
        return t.hasKind(kind) ? deeds.deal.holdsOf(person, kind) : MISSING;
    }

    private boolean comesTo(int table, int heap, int book, int n) {
        Table t = tableAt(table);
        Row cards = heapAt(heap);
        Row lines = bookAt(book);
        if (n < 0 || t == null || cards == null || lines == null || !t.suits(cards)) {
            return false;
        }
        return deeds.play(t, cards, lines, n) == n;
    }

    public int round(int table, int heap, int what) {
        Table t = tableAt(table);
        Row cards = heapAt(heap);
        if (t == null || cards == null || !t.suits(cards)) {
            return MISSING;
        }
        int asked = personAsked(t, what);
        if (what < 0 || what > 4 && asked == NONE) {
            return MISSING;
        }
        rounds.play(t, cards, LAST_TENTH);
        return asked == NONE ? rounds.answer(t, cards, what) : rounds.answerOf(t, asked, what < 20);
    }

    // Answers of one of PEOPLE stand at 10 and his number, and at 20 and his number.
    private static int personAsked(Table t, int what) {
        int person = what >= 20 ? what - 20 : what - 10;
        return what >= 10 && t.has(person) ? person : NONE;
    }

    public int behind(int table, int heap, int tenth, int person, int kind) {
        Table t = tableAt(table);
        Row cards = heapAt(heap);
        if (t == null || cards == null || !t.suits(cards) || !t.has(person)) {
            return MISSING;
        }
        if (tenth < 0 || tenth > LAST_TENTH || kind != NONE && !t.hasKind(kind)) {
            return MISSING;
        }
        rounds.play(t, cards, tenth);
        return kind == NONE ? rounds.deal.waitsFor(person) : rounds.deal.holdsOf(person, kind);
    }

    public int shuffled(int table, int seed, int k) {
        Table t = tableAt(table);
        if (t == null) {
            return NONE;
        }
        Row pack = evenings.shuffledBy(t, seed);
        return pack.reaches(k) ? pack.get(k) : NONE;
    }

    public int evening(int table, int seed, int what) {
        Table t = tableAt(table);
        if (t == null) {
            return MISSING;
        }
        int asked = personAsked(t, what);
        if (what < 0 || what > 2 && asked == NONE) {
            return MISSING;
        }
        evenings.spend(t, seed);
        return asked == NONE ? evenings.answer(what) : evenings.answerOf(asked, what < 20);
    }

    public int luck(int table, int seed, int k, int what) {
        Table t = tableAt(table);
        if (t == null || k < 1 || k > MOST_ROUNDS) {
            return NONE;
        }
        int asked = personAsked(t, what);
        if (what != 0 && asked == NONE) {
            return NONE;
        }
        evenings.playRounds(t, seed, k);
        if (asked == NONE) {
            return evenings.timesFirst(NONE);
        }
        return what < 20 ? evenings.timesFirst(asked) : evenings.timesLast(t, asked);
    }

    public int otherwise(int table, int seed, int k, int person, int sort, int value, boolean first) {
        Table t = tableAt(table);
        if (t == null || !t.has(person) || k < 1 || k > MOST_ROUNDS || sort < 0 || sort > PLACE) {
            return NONE;
        }
        if (value == NONE) {
            return evenings.better(t, seed, k, person, sort);
        }
        if (value < Evenings.leastValue(sort) || value > Evenings.greatestValue(t, sort)) {
            return NONE;
        }
        return evenings.wouldBe(t, seed, k, person, sort, value, first);
    }

    public int hand(int hand, int what) {
        Sheet sheet = told.sheetAt(HANDS, hand);
        if (sheet == null) {
            return MISSING;
        }
        if (what == 0 || what == 1) {
            return what == 0 ? sheet.held.size() : sheet.gone.size();
        }
        if (what >= 100) {
            return sheet.gone.reaches(what - 100) ? sheet.gone.get(what - 100) : MISSING;
        }
        return what >= 10 && sheet.held.reaches(what - 10) ? sheet.held.get(what - 10) : MISSING;
    }

    // Whether there are both and the HAND FITS; then the odds are as they lie.
    private boolean lies(int table, int hand) {
        Table t = tableAt(table);
        Sheet sheet = told.sheetAt(HANDS, hand);
        return t != null && sheet != null && odds.lie(t, sheet);
    }

    public int unseen(int table, int hand, int what) {
        if (tableAt(table) == null || told.sheetAt(HANDS, hand) == null) {
            return NONE;
        }
        boolean fit = lies(table, hand);
        if (what == 0) {
            return fit ? 1 : 0;
        }
        return fit ? odds.answer(what) : NONE;
    }

    public long within(int table, int hand, int n, boolean under) {
        if (!lies(table, hand) || !odds.mayCome(n) || odds.kinds > Odds.FEW_KINDS) {
            return NONE;
        }
        return odds.likely(n, under);
    }

    public int kept(int table, int hand, int n, int kind) {
        if (n < 1 || !lies(table, hand) || !odds.mayCome(n) || odds.kinds > Odds.FEW_KINDS) {
            return NONE;
        }
        return odds.bestHandedOn(n, kind);
    }

    public long alone(int table, int hand, int kind, int n, boolean under) {
        if (!lies(table, hand) || !odds.mayCome(n) || kind < 0 || kind >= odds.kinds) {
            return NONE;
        }
        return odds.likelyAlone(kind, n, under);
    }

    public int soonest(int table, int hand, int heap, boolean kind) {
        Row cards = heapAt(heap);
        if (cards == null || !lies(table, hand)) {
            return NONE;
        }
        return odds.soonestBy(cards, kind);
    }

    public long keeps(int table, int hand, int kind, int j, boolean under) {
        if (!lies(table, hand) || kind < 0 || kind >= odds.kinds || j < 0 || j > MOST_HELD) {
            return NONE;
        }
        return odds.unseenCards < odds.alike ? NONE : odds.likelyKept(kind, j, under);
    }

    public int looks(int table, int person, int first, int at) {
        Table t = tableAt(table);
        if (t == null || !t.has(first)) {
            return NONE;
        }
        if (at == NONE) {
            return t.has(person) && person != first ? Looks.lasts(t, person, first) : NONE;
        }
        return at >= 0 && at < LOOKED_AT ? t.lastOf(first, at) : NONE;
    }

    public int often(int table, int person, int first) {
        Table t = tableAt(table);
        if (t == null || !t.has(person) || !t.has(first) || person == first) {
            return NONE;
        }
        return lookers.bestEyes(t, person, first);
    }

    public int rests(int table, int person, int k) {
        Table t = tableAt(table);
        if (t == null || t.people() > Looks.MOST_PLAYERS) {
            return NONE;
        }
        if (person == NONE) {
            return k >= NONE ? lookers.resting(t, k) : NONE;
        }
        if (!t.has(person) || k < 0 || k >= Looks.waysOf(t.people())) {
            return NONE;
        }
        return lookers.costOf(t, person, k);
    }

    public int even(int table, int person) {
        Table t = tableAt(table);
        return t == null || !t.has(person) ? NONE : Looks.farther(t, person);
    }

    public int feint(int table, int person, int at) {
        Table t = tableAt(table);
        if (t == null || !t.has(person)) {
            return NONE;
        }
        if (at == NONE) {
            return Looks.lure(t, person);
        }
        return at >= 0 && at < LOOKED_AT ? Looks.touching(t, person, at) : NONE;
    }

    public int frame(int film, int k, int what) {
        Film f = filmAt(film);
        if (f == null) {
            return MISSING;
        }
        if (k == NONE) {
            return what == 0 ? f.frames() : MISSING;
        }
        if (k < 0 || k >= f.frames()) {
            return MISSING;
        }
        if (what == 0) {
            return f.tenth(k);
        }
        return what == 1 ? f.who(k) : MISSING;
    }

    public int film(int table, int film, int what) {
        Table t = tableAt(table);
        Film f = filmAt(film);
        if (t == null || f == null) {
            return MISSING;
        }
        int asked = personAsked(t, what);
        if (asked == NONE) {
            return f.answer(t.people(), what);
        }
        if (f.firstWith(asked) == NONE) {
            return MISSING;
        }
        return what < 20 ? f.above(asked) : f.upTo(asked);
    }

    public long pulled(int table, int film, int person, boolean under) {
        Table t = tableAt(table);
        Film f = filmAt(film);
        if (t == null || f == null || !t.has(person) || f.firstWith(person) == NONE) {
            return NONE;
        }
        return f.likelyFirst(t.people(), person, under);
    }

    public int count(int sort) {
        return told.howMany(sort);
    }

    public boolean image(int k) {
        Told image = imageAt(k);
        if (image == null) {
            return false;
        }
        image.copy(told);
        imaged.set(k, 1);
        return true;
    }

    public boolean again(int k) {
        Told image = imageAt(k);
        if (image == null || imaged.get(k) == 0) {
            return false;
        }
        told.copy(image);
        return true;
    }

    private Told imageAt(int k) {
        return k >= 0 && k < images.length ? images[k] : null;
    }

    private Table tableAt(int at) {
        Sheet sheet = told.sheetAt(TABLES, at);
        return sheet == null ? null : sheet.table;
    }

    private Row heapAt(int at) {
        Sheet sheet = told.sheetAt(HEAPS, at);
        return sheet == null ? null : sheet.cards;
    }

    private Row bookAt(int at) {
        Sheet sheet = told.sheetAt(BOOKS, at);
        return sheet == null ? null : sheet.deeds;
    }

    private Film filmAt(int at) {
        Sheet sheet = told.sheetAt(FILMS, at);
        return sheet == null ? null : sheet.film;
    }

    private static long leastTerms(long n, long d, boolean under) {
        long a = d;
        long b = n;
        // Euclid's steps for numbers of 64 bits are fewer than 100.
        for (int i = 0; i < 100 && b != 0; i++) {
            long rest = a % b;
            a = b;
            b = rest;
        }
        if (a == 0) {
            return 0;
        }
        return under ? d / a : n / a;
    }

    // Numbers of bounded length. All indexes are looked at here, so that no other place has to.
    private static final class Row {
        private final int[] items;
        private int size;

        Row(int most) {
            items = new int[most < 0 ? 0 : most];
        }

        int size() {
            return size;
        }

        boolean isFull() {
            return size >= items.length;
        }

        boolean reaches(int at) {
            return at >= 0 && at < size;
        }

        int get(int at) {
            return at >= 0 && at < size && at < items.length ? items[at] : 0;
        }

        void set(int at, int value) {
            if (at >= 0 && at < size && at < items.length) {
                items[at] = value;
            }
        }

        void add(int at, int more) {
            if (at >= 0 && at < size && at < items.length) {
                items[at] += more;
            }
        }

        void push(int value) {
            if (size >= 0 && size < items.length) {
                items[size] = value;
                size++;
            }
        }

        void remove(int at) {
            if (at < 0 || at >= size) {
                return;
            }
            for (int i = at; i + 1 < size; i++) {
                set(i, get(i + 1));
            }
            size--;
        }

        void clear() {
            size = 0;
        }

        void cut(int length) {
            if (length >= 0 && length < size) {
                size = length;
            }
        }

        void fill(int length, int value) {
            size = Math.max(0, Math.min(length, items.length));
            Arrays.fill(items, value);
        }

        void swap(int one, int other) {
            int kept = get(one);
            set(one, get(other));
            set(other, kept);
        }

        void copy(Row from) {
            size = Math.max(0, Math.min(from.size, Math.min(from.items.length, items.length)));
            System.arraycopy(from.items, 0, items, 0, size);
        }

        int countOf(int value) {
            int many = 0;
            for (int i = 0; i < size; i++) {
                many += get(i) == value ? 1 : 0;
            }
            return many;
        }
    }

    private static final class Table {
        private final Row numbers = new Row(TABLE_NUMBERS);
        private final Row persons = new Row(MOST_PEOPLE * PERSON_NUMBERS);

        Table() {
            clear();
        }

        void clear() {
            numbers.fill(TABLE_NUMBERS, 4);
            numbers.set(LETTERS, 1);
            numbers.set(OUTSTRETCHED, 3);
            numbers.set(PEOPLE, 0);
            persons.fill(MOST_PEOPLE * PERSON_NUMBERS, 0);
            for (int p = 0; p < MOST_PEOPLE; p++) {
                setOf(p, LAW_KIND, NONE);
            }
        }

        void copy(Table from) {
            numbers.copy(from.numbers);
            persons.copy(from.persons);
        }

        // The same table with nobody at it yet.
        void copyEmpty(Table from) {
            numbers.copy(from.numbers);
            numbers.set(PEOPLE, 0);
        }

        void seat(Table from, int person) {
            for (int what = 0; what < PERSON_NUMBERS; what++) {
                setOf(people(), what, from.of(person, what));
            }
            numbers.add(PEOPLE, 1);
        }

        int number(int what) {
            return numbers.get(what);
        }

        void setNumber(int what, int value) {
            numbers.set(what, value);
        }

        int of(int person, int what) {
            return persons.get(person * PERSON_NUMBERS + what);
        }

        void setOf(int person, int what, int value) {
            persons.set(person * PERSON_NUMBERS + what, value);
        }

        int kinds() {
            return numbers.get(KINDS);
        }

        int alike() {
            return numbers.get(ALIKE);
        }

        int people() {
            return numbers.get(PEOPLE);
        }

        int pack() {
            return kinds() * numbers.get(COPIES);
        }

        int allHold() {
            return people() * alike();
        }

        boolean has(int person) {
            return person >= 0 && person < people();
        }

        boolean hasKind(int kind) {
            return kind >= 0 && kind < kinds();
        }

        boolean suits(Row cards) {
            int known = 0;
            for (int kind = 0; kind < kinds(); kind++) {
                int many = cards.countOf(kind);
                if (many > numbers.get(COPIES)) {
                    return false;
                }
                known += many;
            }
            return known == cards.size() && known > allHold();
        }

        // Whether his PACE or EYES go into a tenth.
        boolean goesInto(int person, int what, int tenth) {
            int each = of(person, what);
            return each > 0 && tenth % each == 0;
        }

        // Looking is always later than the tenth itself, even if his EYES go into it.
        int waitOf(int person, int tenth) {
            int eyes = of(person, EYES);
            int look = eyes > 0 ? eyes - tenth % eyes : 0;
            return look + of(person, QUICK) + of(person, FAR);
        }

        int spoonOf(int person, int first, int tenth) {
            if (person == first) {
                return tenth + of(person, QUICK) + of(person, FAR);
            }
            return tenth + waitOf(person, tenth);
        }

        int lastOf(int first, int tenth) {
            int last = NONE;
            int latest = 0;
            for (int p = 0; p < people(); p++) {
                int spoon = spoonOf(p, first, tenth);
                if (last == NONE || spoon >= latest) {
                    last = p;
                    latest = spoon;
                }
            }
            return last;
        }
    }

    private static final class Film {
        private final Row tenths = new Row(MOST_FRAMES);
        private final Row whos = new Row(MOST_FRAMES);

        void clear() {
            tenths.clear();
            whos.clear();
        }

        void copy(Film from) {
            tenths.copy(from.tenths);
            whos.copy(from.whos);
        }

        boolean isFull() {
            return tenths.isFull();
        }

        void push(int tenth, int who) {
            tenths.push(tenth);
            whos.push(who);
        }

        int frames() {
            return tenths.size();
        }

        int tenth(int k) {
            return tenths.get(k);
        }

        int who(int k) {
            return whos.get(k);
        }

        int firstWith(int person) {
            for (int k = 0; k < frames(); k++) {
                if ((who(k) >> person & 1) != 0) {
                    return k;
                }
            }
            return NONE;
        }

        // TAKEN at a tenth above this one; ahead of the first FRAME nobody has looked.
        int above(int person) {
            int k = firstWith(person);
            return k > 0 ? tenth(k - 1) : NONE;
        }

        int upTo(int person) {
            return tenth(firstWith(person));
        }

        int answer(int people, int what) {
            switch (what) {
                case 0:
                    return lies();
                case 1:
                    return sure(people);
                case 2:
                    return may(people);
                case 3:
                    return shorts(people);
                default:
                    return MISSING;
            }
        }

        private int lies() {
            int bits = 0;
            for (int k = 1; k < frames(); k++) {
                if ((who(k - 1) & ~who(k)) != 0) {
                    bits |= 1 << k;
                }
            }
            return bits;
        }

        private int sure(int people) {
            for (int p = 0; p < people; p++) {
                if (firstWith(p) != NONE && leastOfOthers(people, p, false) > upTo(p)) {
                    return p;
                }
            }
            return NONE;
        }

        private int may(int people) {
            int bits = 0;
            for (int p = 0; p < people; p++) {
                if (firstWith(p) != NONE && leastOfOthers(people, p, true) > above(p)) {
                    bits |= 1 << p;
                }
            }
            return bits;
        }

        // The least of all others' earliest or latest tenths; who is in no FRAME is behind all.
        private int leastOfOthers(int people, int person, boolean latest) {
            int least = LAST_TENTH_OF_A_FILM + 1;
            for (int q = 0; q < people; q++) {
                if (q != person && firstWith(q) != NONE) {
                    least = Math.min(least, latest ? upTo(q) : above(q) + 1);
                }
            }
            return least;
        }

        private int shorts(int people) {
            int all = (1 << people) - 1;
            int many = 0;
            for (int k = 0; k < frames(); k++) {
                many += (who(k) & all) == all ? 1 : 0;
            }
            return many;
        }

        long likelyFirst(int people, int person, boolean under) {
            long all = upTo(person) - above(person);
            long ahead = 0;
            for (int tenth = above(person) + 1; tenth <= upTo(person); tenth++) {
                ahead += waysOfOthers(people, person, tenth);
            }
            all *= waysOfOthers(people, person, 0);
            return leastTerms(ahead, all, under);
        }

        // In how many ways all others have theirs at a tenth or later.
        private long waysOfOthers(int people, int person, int tenth) {
            long ways = 1;
            for (int q = 0; q < people; q++) {
                if (q != person && firstWith(q) != NONE) {
                    ways *= Math.max(0, upTo(q) - Math.max(above(q), tenth - 1));
                }
            }
            return ways;
        }
    }

    // One text of each sort.
    private static final class Sheet {
        private final Table table = new Table();
        private final Row cards = new Row(MOST_CARDS);
        private final Row deeds = new Row(MOST_DEEDS * DEED_NUMBERS);
        private final Row held = new Row(MOST_HELD);
        private final Row gone = new Row(MOST_GONE);
        private final Film film = new Film();

        void clear() {
            table.clear();
            cards.clear();
            deeds.clear();
            held.clear();
            gone.clear();
            film.clear();
        }

        void copy(int sort, Sheet from) {
            switch (sort) {
                case TABLES:
                    table.copy(from.table);
                    break;
                case HEAPS:
                    cards.copy(from.cards);
                    break;
                case BOOKS:
                    deeds.copy(from.deeds);
                    break;
                case HANDS:
                    held.copy(from.held);
                    gone.copy(from.gone);
                    break;
                case FILMS:
                    film.copy(from.film);
                    break;
                default:
                    break;
            }
        }
    }

    // All that is told: what an image has to keep.
    private static final class Told {
        private final Row tape = new Row(TAPE_BYTES);
        private final Row counts = new Row(SORTS);
        private final Sheet[] sheets = {new Sheet(), new Sheet()};
        private int fault;
        private int place = NONE;

        Told() {
            counts.fill(SORTS, 0);
        }

        int howMany(int sort) {
            return counts.reaches(sort) ? counts.get(sort) : MISSING;
        }

        Sheet sheetAt(int sort, int at) {
            return at < howMany(sort) ? slotAt(at) : null;
        }

        private Sheet slotAt(int at) {
            return at >= 0 && at < sheets.length ? sheets[at] : null;
        }

        void keep(int sort, int at, Sheet from) {
            Sheet sheet = slotAt(at);
            if (sheet == null || from == null) {
                return;
            }
            sheet.copy(sort, from);
            if (at >= howMany(sort)) {
                counts.set(sort, at + 1);
            }
        }

        void copy(Told from) {
            tape.copy(from.tape);
            fault = from.fault;
            place = from.place;
            counts.copy(from.counts);
            for (int at = 0; at < TEXTS_OF_A_SORT; at++) {
                for (int sort = 0; sort < SORTS; sort++) {
                    keep(sort, at, from.sheetAt(sort, at));
                }
            }
        }
    }

    // Reads the tape as one text, onto a sheet of its own: with a FAULT nothing else may change.
    private static final class Reader {
        private static final int WORD = 0;
        private static final int NUMBER = 1;
        private static final int SEMICOLON = 2;
        private static final int END = 3;
        private static final int NO_TOKEN = 4;

        // Forms of lines; those ahead of PERSON bear a table's number each, those from DEEDS on a deed each.
        private static final int PERSON = 5;
        private static final int JUMPY_LINE = 6;
        private static final int LAW_LINE = 7;
        private static final int CARDS_LINE = 8;
        private static final int HOLD_LINE = 9;
        private static final int GONE_LINE = 10;
        private static final int FRAME_LINE = 11;
        private static final int DEED_LINES = 20;
        private static final int NO_FORM = -1;

        private static final int GREATEST_KIND = MOST_KINDS - 1;
        private static final int GREATEST_PERSON = MOST_PEOPLE - 1;

        private final Row tape = new Row(TAPE_BYTES);
        private final Sheet sheet = new Sheet();
        private final Row numbers = new Row(TAPE_BYTES);
        private final Row places = new Row(TAPE_BYTES);
        private int token;
        private int start;
        private int next;
        private int law;
        private boolean broken;
        private int fault;
        private int place;
        private int greatestTold;
        private int greatestKindTold;

        void read(Row bytes, int sort) {
            tape.copy(bytes);
            sheet.clear();
            next = 0;
            broken = false;
            fault = 0;
            place = NONE;
            greatestTold = NONE;
            greatestKindTold = NONE;
            step();
            for (int line = 0; line < TAPE_BYTES && token != END && !broken; line++) {
                readLine(sort);
            }
            if (sort == TABLES && !broken && !stands()) {
                note(4, tape.size());
            }
        }

        private boolean stands() {
            Table t = sheet.table;
            return t.people() >= 2 && greatestTold < t.people() && greatestKindTold < t.kinds()
                && t.pack() > t.allHold();
        }

        private void readLine(int sort) {
            int first = start;
            int form = token == WORD ? formOf(sort) : NO_FORM;
            if (form == NO_FORM) {
                breakOff();
                return;
            }
            step();
            numbers.clear();
            places.clear();
            readNumbers(leastNumbers(form), mostNumbers(form));
            if (form == LAW_LINE && !broken) {
                readLaw();
            }
            if (!broken && token != SEMICOLON) {
                breakOff();
            }
            if (!broken) {
                step();
                tell(form, first);
            }
        }

        private void readNumbers(int least, int most) {
            int many = 0;
            for (; many < most && token == NUMBER; many++) {
                numbers.push(numberHere());
                places.push(start);
                step();
            }
            if (many < least) {
                breakOff();
            }
        }

        private void readLaw() {
            law = token == WORD ? lawHere() : NO_FORM;
            if (law == NO_FORM) {
                breakOff();
                return;
            }
            step();
            int more = law == AIM || law == KEEP ? 1 : 0;
            readNumbers(more, more);
        }

        private int lawHere() {
            if (says("most")) {
                return MOST;
            }
            if (says("aim")) {
                return AIM;
            }
            if (says("keep")) {
                return KEEP;
            }
            return says("never") ? NEVER : NO_FORM;
        }

        private int formOf(int sort) {
            switch (sort) {
                case TABLES:
                    return tableForm();
                case HEAPS:
                    return says("cards") ? CARDS_LINE : NO_FORM;
                case BOOKS:
                    return deedForm();
                case HANDS:
                    return says("hold") ? HOLD_LINE : says("gone") ? GONE_LINE : NO_FORM;
                case FILMS:
                    return says("frame") ? FRAME_LINE : NO_FORM;
                default:
                    return NO_FORM;
            }
        }

        private int tableForm() {
            if (says("kinds")) {
                return KINDS;
            }
            if (says("copies")) {
                return COPIES;
            }
            if (says("alike")) {
                return ALIKE;
            }
            if (says("letters")) {
                return LETTERS;
            }
            if (says("out")) {
                return OUTSTRETCHED;
            }
            if (says("person")) {
                return PERSON;
            }
            if (says("jumpy")) {
                return JUMPY_LINE;
            }
            return says("law") ? LAW_LINE : NO_FORM;
        }

        private int deedForm() {
            if (says("take")) {
                return DEED_LINES + TAKE;
            }
            if (says("hand")) {
                return DEED_LINES + HAND_ON;
            }
            if (says("reach")) {
                return DEED_LINES + REACH;
            }
            if (says("feint")) {
                return DEED_LINES + FEINT;
            }
            return says("pass") ? DEED_LINES + PASS : NO_FORM;
        }

        private static int leastNumbers(int form) {
            if (form == PERSON) {
                return 4;
            }
            return form == DEED_LINES + HAND_ON ? 2 : 1;
        }

        private static int mostNumbers(int form) {
            switch (form) {
                case CARDS_LINE:
                case HOLD_LINE:
                case GONE_LINE:
                case FRAME_LINE:
                    return TAPE_BYTES;
                default:
                    return leastNumbers(form);
            }
        }

        private void tell(int form, int first) {
            switch (form) {
                case PERSON:
                    tellPerson(first);
                    break;
                case JUMPY_LINE:
                    tellJumpy();
                    break;
                case LAW_LINE:
                    tellLaw();
                    break;
                case CARDS_LINE:
                    tellKinds(sheet.cards);
                    break;
                case HOLD_LINE:
                    tellKinds(sheet.held);
                    break;
                case GONE_LINE:
                    tellKinds(sheet.gone);
                    break;
                case FRAME_LINE:
                    tellFrame(first);
                    break;
                default:
                    if (form >= DEED_LINES) {
                        tellDeed(form - DEED_LINES, first);
                    } else {
                        tellNumber(form);
                    }
            }
        }

        private void tellNumber(int what) {
            switch (what) {
                case KINDS:
                    check(0, 2, MOST_KINDS);
                    break;
                case COPIES:
                    check(0, 1, 4);
                    break;
                case ALIKE:
                    check(0, 2, MOST_HELD);
                    break;
                case LETTERS:
                    check(0, 1, 9);
                    break;
                default:
                    check(0, 0, 9);
            }
            sheet.table.setNumber(what, numbers.get(0));
        }

        private void tellPerson(int first) {
            Table t = sheet.table;
            if (t.people() >= MOST_PEOPLE) {
                note(3, first);
            }
            check(0, 1, 9);
            check(1, 1, 9);
            check(2, 0, 9);
            check(3, 0, 20);
            if (t.people() < MOST_PEOPLE) {
                for (int what = PACE; what <= FAR; what++) {
                    t.setOf(t.people(), what, numbers.get(what));
                }
                t.setNumber(PEOPLE, t.people() + 1);
            }
        }

        private void tellJumpy() {
            check(0, 0, GREATEST_PERSON);
            greatestTold = Math.max(greatestTold, numbers.get(0));
            sheet.table.setOf(numbers.get(0), JUMPY, 1);
        }

        private void tellLaw() {
            int who = numbers.get(0);
            check(0, 0, GREATEST_PERSON);
            greatestTold = Math.max(greatestTold, who);
            sheet.table.setOf(who, LAW, law);
            sheet.table.setOf(who, LAW_KIND, NONE);
            if (law == AIM || law == KEEP) {
                check(1, 0, GREATEST_KIND);
                greatestKindTold = Math.max(greatestKindTold, numbers.get(1));
                sheet.table.setOf(who, LAW_KIND, numbers.get(1));
            }
        }

        private void tellKinds(Row cards) {
            for (int i = 0; i < numbers.size(); i++) {
                check(i, 0, GREATEST_KIND);
                if (cards.isFull()) {
                    note(3, places.get(i));
                }
                cards.push(numbers.get(i));
            }
        }

        private void tellDeed(int deed, int first) {
            Row deeds = sheet.deeds;
            if (deeds.isFull()) {
                note(3, first);
            }
            if (deed == PASS) {
                check(0, 1, 9);
            } else {
                check(0, 0, GREATEST_PERSON);
            }
            if (deed == HAND_ON) {
                check(1, 0, GREATEST_KIND);
            }
            deeds.push(deed);
            deeds.push(numbers.get(0));
            deeds.push(deed == HAND_ON ? numbers.get(1) : NONE);
        }

        private void tellFrame(int first) {
            Film film = sheet.film;
            if (film.isFull()) {
                note(3, first);
            }
            int ahead = film.frames() == 0 ? NONE : film.tenth(film.frames() - 1);
            check(0, ahead + 1, LAST_TENTH_OF_A_FILM);
            int who = 0;
            for (int i = 1; i < numbers.size(); i++) {
                check(i, 0, GREATEST_PERSON);
                int bit = 1 << Math.min(numbers.get(i), MOST_PEOPLE);
                if ((who & bit) != 0) {
                    note(2, places.get(i));
                }
                who |= bit;
            }
            film.push(numbers.get(0), who);
        }

        private void check(int i, int least, int most) {
            if (numbers.get(i) < least || numbers.get(i) > most) {
                note(2, places.get(i));
            }
        }

        // All but breakOff() note FAULTS in the order of their places, of one place the least first.
        private void note(int kind, int at) {
            if (fault == 0) {
                fault = kind;
                place = at;
            }
        }

        // This one goes ahead of all others, whatever their places are.
        private void breakOff() {
            broken = true;
            fault = 1;
            place = start;
        }

        private void step() {
            int at = next;
            while (at < tape.size() && isBlank(tape.get(at))) {
                at++;
            }
            start = at;
            if (at >= tape.size()) {
                next = at;
                token = END;
            } else if (isLetter(tape.get(at))) {
                next = endOfLetters(at);
                token = WORD;
            } else if (isDigit(tape.get(at))) {
                next = endOfDigits(at);
                token = next - start > 2 ? NO_TOKEN : NUMBER;
            } else {
                next = at + 1;
                token = tape.get(at) == ';' ? SEMICOLON : NO_TOKEN;
            }
        }

        private int endOfLetters(int from) {
            int at = from;
            while (at < tape.size() && isLetter(tape.get(at))) {
                at++;
            }
            return at;
        }

        private int endOfDigits(int from) {
            int at = from;
            while (at < tape.size() && isDigit(tape.get(at))) {
                at++;
            }
            return at;
        }

        private static boolean isBlank(int b) {
            return b == 10 || b == 32;
        }

        private static boolean isLetter(int b) {
            return b >= 'a' && b <= 'z';
        }

        private static boolean isDigit(int b) {
            return b >= '0' && b <= '9';
        }

        private boolean says(String word) {
            if (next - start != word.length()) {
                return false;
            }
            for (int i = 0; i < word.length(); i++) {
                if (tape.get(start + i) != word.charAt(i)) {
                    return false;
                }
            }
            return true;
        }

        private int numberHere() {
            int number = 0;
            for (int at = start; at < next; at++) {
                number = number * 10 + tape.get(at) - '0';
            }
            return number;
        }
    }

    // Who holds what, and the ways of the cards from the HEAP past all PEOPLE.
    private static final class Deal {
        private final Row held = new Row(MOST_PEOPLE * MOST_KINDS);
        private final Row sizes = new Row(MOST_PEOPLE);
        // Lane p leads to person p; the HEAP and those AWAY have lanes 0 and the one behind the last person's.
        private final Row lanes = new Row((MOST_PEOPLE + 1) * MOST_CARDS);
        private final Row heads = new Row(MOST_PEOPLE + 1);
        private final Row lengths = new Row(MOST_PEOPLE + 1);
        private int people;
        private int alike;
        private int kinds;
        private int heapLane;
        private int awayLane;

        Deal() {
            lanes.fill((MOST_PEOPLE + 1) * MOST_CARDS, 0);
        }

        void start(Table t, Row cards) {
            people = t.people();
            alike = t.alike();
            kinds = t.kinds();
            heapLane = 0;
            awayLane = people;
            held.fill(MOST_PEOPLE * MOST_KINDS, 0);
            sizes.fill(people, alike);
            heads.fill(MOST_PEOPLE + 1, 0);
            lengths.fill(MOST_PEOPLE + 1, 0);
            int at = 0;
            for (int p = 0; p < people; p++) {
                for (int i = 0; i < alike; i++) {
                    held.add(p * MOST_KINDS + cards.get(at), 1);
                    at++;
                }
            }
            for (; at < cards.size(); at++) {
                enter(heapLane, cards.get(at));
            }
        }

        void copy(Deal from) {
            held.copy(from.held);
            sizes.copy(from.sizes);
            lanes.copy(from.lanes);
            heads.copy(from.heads);
            lengths.copy(from.lengths);
            people = from.people;
            alike = from.alike;
            kinds = from.kinds;
            heapLane = from.heapLane;
            awayLane = from.awayLane;
        }

        // Of two deals of one table: lengths first, as they tell most pairs apart.
        boolean liesAs(Deal other) {
            for (int p = 0; p <= people; p++) {
                if (waitsFor(p) != other.waitsFor(p)) {
                    return false;
                }
            }
            for (int at = 0; at < people * MOST_KINDS; at++) {
                if (held.get(at) != other.held.get(at)) {
                    return false;
                }
            }
            for (int p = 0; p <= people; p++) {
                for (int i = 0; i < waitsFor(p); i++) {
                    if (waiting(p, i) != other.waiting(p, i)) {
                        return false;
                    }
                }
            }
            return true;
        }

        private int waiting(int person, int i) {
            int lane = laneTo(person);
            return lanes.get(lane * MOST_CARDS + (heads.get(lane) + i) % MOST_CARDS);
        }

        int holdsCards(int person) {
            return sizes.get(person);
        }

        int holdsOf(int person, int kind) {
            return held.get(person * MOST_KINDS + kind);
        }

        int waitsFor(int person) {
            return lengths.get(laneTo(person));
        }

        int away() {
            return lengths.get(awayLane);
        }

        boolean hasAlike(int person) {
            for (int kind = 0; kind < kinds; kind++) {
                if (sizes.get(person) == alike && holdsOf(person, kind) == alike) {
                    return true;
                }
            }
            return false;
        }

        int firstAlike() {
            for (int p = 0; p < people; p++) {
                if (hasAlike(p)) {
                    return p;
                }
            }
            return NONE;
        }

        private int laneTo(int person) {
            if (person == people) {
                return awayLane;
            }
            return person == 0 ? heapLane : person;
        }

        int take(int person) {
            if (person == 0 && lengths.get(heapLane) == 0) {
                int empty = heapLane;
                heapLane = awayLane;
                awayLane = empty;
            }
            int kind = leave(laneTo(person));
            if (kind != NONE) {
                held.add(person * MOST_KINDS + kind, 1);
                sizes.add(person, 1);
            }
            return kind;
        }

        void handOn(int person, int kind) {
            held.add(person * MOST_KINDS + kind, -1);
            sizes.add(person, -1);
            enter(laneTo(person + 1), kind);
        }

        private void enter(int lane, int kind) {
            int at = (heads.get(lane) + lengths.get(lane)) % MOST_CARDS;
            lanes.set(lane * MOST_CARDS + at, kind);
            lengths.add(lane, 1);
        }

        private int leave(int lane) {
            if (lengths.get(lane) == 0) {
                return NONE;
            }
            int head = heads.get(lane);
            heads.set(lane, (head + 1) % MOST_CARDS);
            lengths.add(lane, -1);
            return lanes.get(lane * MOST_CARDS + head);
        }

        // The KIND of which he has fewest, of several the greatest; not the one to keep, if he has another.
        int fewest(int person, int keep) {
            int base = person * MOST_KINDS;
            int best = keep;
            int least = MOST_CARDS;
            for (int kind = 0; kind < kinds; kind++) {
                int many = held.get(base + kind);
                if (many > 0 && many <= least && kind != keep) {
                    best = kind;
                    least = many;
                }
            }
            return best;
        }

        int greatest(int person, int keep) {
            for (int kind = kinds - 1; kind >= 0; kind--) {
                if (kind != keep && held.get(person * MOST_KINDS + kind) > 0) {
                    return kind;
                }
            }
            return keep;
        }
    }

    // A BOOK's round, deed by deed.
    private static final class Deeds {
        private final Deal deal = new Deal();
        private final Row takers = new Row(MOST_PEOPLE);
        private final Row letters = new Row(MOST_PEOPLE);
        private int people;
        private int alike;
        private int tenths;
        private int feints;
        private int last;

        // How many DEEDS of at most so many can be, up to the first that can't.
        int play(Table t, Row cards, Row book, int most) {
            people = t.people();
            alike = t.alike();
            deal.start(t, cards);
            takers.clear();
            letters.fill(people, 0);
            tenths = 0;
            feints = 0;
            last = NONE;
            int many = Math.min(most, book.size() / DEED_NUMBERS);
            for (int k = 0; k < many; k++) {
                int at = k * DEED_NUMBERS;
                if (!happens(book.get(at), book.get(at + 1), book.get(at + 2))) {
                    return k;
                }
            }
            return many;
        }

        private boolean happens(int deed, int number, int kind) {
            if (last != NONE) {
                return false;
            }
            if (deed == PASS) {
                tenths += number;
                return true;
            }
            if (number < 0 || number >= people) {
                return false;
            }
            switch (deed) {
                case TAKE:
                    return deal.holdsCards(number) == alike && deal.take(number) != NONE;
                case HAND_ON:
                    return handsOn(number, kind);
                case REACH:
                    return reaches(number);
                default:
                    feints++;
                    return true;
            }
        }

        private boolean handsOn(int person, int kind) {
            if (deal.holdsCards(person) != alike + 1 || deal.holdsOf(person, kind) == 0) {
                return false;
            }
            deal.handOn(person, kind);
            return true;
        }

        private boolean reaches(int person) {
            if (takers.countOf(person) > 0) {
                return false;
            }
            if (takers.size() == 0 && !deal.hasAlike(person)) {
                letters.add(person, 1);
                return true;
            }
            takers.push(person);
            if (takers.size() == people - 1) {
                last = withoutSpoon();
                letters.add(last, 1);
            }
            return true;
        }

        private int withoutSpoon() {
            for (int p = 0; p < people; p++) {
                if (takers.countOf(p) == 0) {
                    return p;
                }
            }
            return NONE;
        }

        int answer(int what) {
            switch (what) {
                case 0:
                    return tenths;
                case 1:
                    return takers.size();
                case 2:
                    return last;
                case 3:
                    return deal.away();
                case 4:
                    return deal.waitsFor(0);
                case 5:
                    return feints;
                default:
                    return answerOf(what);
            }
        }

        private int answerOf(int what) {
            if (what >= 10 && what < 10 + takers.size()) {
                return takers.get(what - 10);
            }
            if (what >= 20 && what < 20 + people) {
                return letters.get(what - 20);
            }
            return what >= 30 && what < 30 + people ? deal.waitsFor(what - 30) : MISSING;
        }
    }

    // A ROUND by laws, tenth by tenth.
    private static final class Rounds {
        private final Deal deal = new Deal();
        private final Row handed = new Row(MOST_PEOPLE);
        private final Table mended = new Table();
        // How all lay at an earlier tenth, NONE as long as there is no such one.
        private final Deal earlier = new Deal();
        private final Row earlierHanded = new Row(MOST_PEOPLE);
        private int earlierTenth;
        private int first;
        private int tenth;

        void play(Table t, Row cards, int until) {
            int people = t.people();
            int samePaces = samePacesEach(t);
            deal.start(t, cards);
            handed.fill(people, 0);
            earlierTenth = NONE;
            tenth = 0;
            first = deal.firstAlike();
            while (first == NONE && tenth < until) {
                tenth++;
                for (int p = 0; p < people && first == NONE; p++) {
                    if (t.goesInto(p, PACE, tenth) && turn(t, p)) {
                        first = p;
                    }
                }
                if (first == NONE && samePaces > 0 && tenth % samePaces == 0) {
                    leap(until);
                }
            }
        }

        // By how many tenths it is the same PEOPLE again who take.
        private static int samePacesEach(Table t) {
            int all = 1;
            for (int p = 0; p < t.people(); p++) {
                int once = all;
                for (int times = 1; times < t.of(p, PACE) && !t.goesInto(p, PACE, all); times++) {
                    all += once;
                }
            }
            return all;
        }

        // Where all lie as they lay before, it goes on as it went since: that often as may be it need not be played.
        private void leap(int until) {
            int length = tenth - earlierTenth;
            if (earlierTenth > 0 && length > 0 && deal.liesAs(earlier)) {
                int times = (until - tenth) / length;
                for (int p = 0; p < handed.size(); p++) {
                    handed.add(p, times * (handed.get(p) - earlierHanded.get(p)));
                }
                tenth += times * length;
            }
            // Later and later ones, so that one of them is far enough on and long enough ago.
            if (earlierTenth == NONE || tenth >= 2 * earlierTenth) {
                earlier.copy(deal);
                earlierHanded.copy(handed);
                earlierTenth = tenth;
            }
        }

        // Whether he is FIRST by it: only of the KIND that he took he can have more than ahead of it.
        private boolean turn(Table t, int person) {
            int took = deal.take(person);
            if (took == NONE) {
                return false;
            }
            deal.handOn(person, choice(t, person, took));
            handed.add(person, 1);
            return deal.holdsOf(person, took) == t.alike();
        }

        private int choice(Table t, int person, int took) {
            int kind = t.of(person, LAW_KIND);
            switch (t.of(person, LAW)) {
                case AIM:
                    return deal.greatest(person, kind);
                case KEEP:
                    return deal.fewest(person, kind);
                case NEVER:
                    return took;
                default:
                    return deal.fewest(person, NONE);
            }
        }

        int answer(Table t, Row cards, int what) {
            if (what == 3) {
                int all = 0;
                for (int p = 0; p < t.people(); p++) {
                    all += handed.get(p);
                }
                return all;
            }
            if (first == NONE) {
                return what == 4 ? mends(t, cards) : NONE;
            }
            switch (what) {
                case 0:
                    return tenth;
                case 1:
                    return first;
                case 2:
                    return t.lastOf(first, tenth);
                default:
                    return NONE;
            }
        }

        int answerOf(Table t, int person, boolean spoon) {
            if (!spoon) {
                return handed.get(person);
            }
            return first == NONE ? NONE : t.spoonOf(person, first, tenth);
        }

        private int mends(Table t, Row cards) {
            for (int p = 0; p < t.people(); p++) {
                if (t.of(p, LAW) != MOST) {
                    mended.copy(t);
                    mended.setOf(p, LAW, MOST);
                    play(mended, cards, LAST_TENTH);
                    if (first != NONE) {
                        return p;
                    }
                }
            }
            return NONE;
        }
    }

    // ROUNDS with a PACK that is SHUFFLED anew for each.
    private static final class Evenings {
        private static final int MOST_EVENING_ROUNDS = 100;

        private final Rounds rounds = new Rounds();
        private final Row pack = new Row(MOST_CARDS);
        private final Row firsts = new Row(MOST_ROUNDS);
        private final Row tenths = new Row(MOST_ROUNDS);
        private final Row letters = new Row(MOST_PEOPLE);
        private final Row outBy = new Row(MOST_PEOPLE);
        private final Row left = new Row(MOST_PEOPLE);
        private final Table changed = new Table();
        private int x;
        private int ended;
        private int winner;
        private int firstOut;

        Row shuffledBy(Table t, int seed) {
            x = seed;
            shuffle(t);
            return pack;
        }

        private void shuffle(Table t) {
            pack.clear();
            int copies = t.number(COPIES);
            for (int kind = 0; kind < t.kinds(); kind++) {
                for (int i = 0; i < copies; i++) {
                    pack.push(kind);
                }
            }
            for (int place = pack.size() - 1; place >= 1; place--) {
                pack.swap(place, draw(place + 1));
            }
        }

        private int draw(int below) {
            x = x * 1103515245 + 12345;
            return below > 0 ? (x >>> 16) % below : 0;
        }

        void spend(Table t, int seed) {
            x = seed;
            ended = 0;
            winner = NONE;
            firstOut = NONE;
            letters.fill(t.people(), 0);
            outBy.fill(t.people(), NONE);
            left.clear();
            for (int p = 0; p < t.people(); p++) {
                left.push(p);
            }
            boolean goesOn = true;
            for (int i = 0; i < MOST_EVENING_ROUNDS && goesOn && left.size() > 1; i++) {
                goesOn = playOfThoseLeft(t);
            }
            if (left.size() == 1) {
                winner = left.get(0);
            }
        }

        private boolean playOfThoseLeft(Table t) {
            changed.copyEmpty(t);
            for (int i = 0; i < left.size(); i++) {
                changed.seat(t, left.get(i));
            }
            shuffle(t);
            rounds.play(changed, pack, LAST_TENTH);
            if (rounds.first == NONE) {
                return false;
            }
            int seat = changed.lastOf(rounds.first, rounds.tenth);
            int last = left.get(seat);
            letters.add(last, 1);
            if (letters.get(last) >= t.number(LETTERS)) {
                outBy.set(last, ended);
                firstOut = firstOut == NONE ? last : firstOut;
                left.remove(seat);
            }
            ended++;
            return true;
        }

        int answer(int what) {
            if (what == 0) {
                return winner;
            }
            return what == 1 ? ended : firstOut;
        }

        int answerOf(int person, boolean ofLetters) {
            return ofLetters ? letters.get(person) : outBy.get(person);
        }

        void playRounds(Table t, int seed, int k) {
            x = seed;
            firsts.clear();
            tenths.clear();
            for (int i = 0; i < k; i++) {
                shuffle(t);
                rounds.play(t, pack, LAST_TENTH);
                firsts.push(rounds.first);
                tenths.push(rounds.tenth);
            }
        }

        // NONE is FIRST in those that NEVER END.
        int timesFirst(int person) {
            return firsts.countOf(person);
        }

        int timesLast(Table t, int person) {
            int many = 0;
            for (int i = 0; i < firsts.size(); i++) {
                if (firsts.get(i) != NONE && t.lastOf(firsts.get(i), tenths.get(i)) == person) {
                    many++;
                }
            }
            return many;
        }

        static int leastValue(int sort) {
            return sort == PACE || sort == EYES ? 1 : 0;
        }

        static int greatestValue(Table t, int sort) {
            switch (sort) {
                case FAR:
                    return 20;
                case LAW:
                    return NEVER;
                case PLACE:
                    return t.people() - 1;
                default:
                    return 9;
            }
        }

        int wouldBe(Table t, int seed, int k, int person, int sort, int value, boolean first) {
            int seat = change(t, person, sort, value);
            playRounds(changed, seed, k);
            return first ? timesFirst(seat) : timesLast(changed, seat);
        }

        int better(Table t, int seed, int k, int person, int sort) {
            int best = NONE;
            int seldomest = 0;
            int greatest = greatestValue(t, sort);
            for (int value = leastValue(sort); value <= greatest; value++) {
                int seat = change(t, person, sort, value);
                // How soon he is at the spoons changes nobody's cards.
                if (best == NONE || sort == PACE || sort == LAW || sort == PLACE) {
                    playRounds(changed, seed, k);
                }
                int many = timesLast(changed, seat);
                if (best == NONE || many < seldomest) {
                    best = value;
                    seldomest = many;
                }
            }
            return best;
        }

        // The table as it would be: where he sits at it then.
        private int change(Table t, int person, int sort, int value) {
            if (sort == PLACE) {
                reseat(t, person, value);
                return value;
            }
            changed.copy(t);
            changed.setOf(person, sort, value);
            if (changed.of(person, LAW_KIND) == NONE) {
                changed.setOf(person, LAW_KIND, 0);
            }
            return person;
        }

        private void reseat(Table t, int person, int seat) {
            changed.copyEmpty(t);
            int other = 0;
            for (int i = 0; i < t.people(); i++) {
                if (i == seat) {
                    changed.seat(t, person);
                } else {
                    other += other == person ? 1 : 0;
                    changed.seat(t, other);
                    other++;
                }
            }
        }
    }

    // What can be known of a HAND at a TABLE; lie() comes ahead of all else.
    private static final class Odds {
        private static final int FEW_KINDS = 4;
        private static final int MOST_COMING = 6;
        private static final int HAND_CODES = 125;
        private static final int DRAW_CODES = 625;
        private static final int HANDS_OF_FEW = 35;
        private static final int DRAWS_OF_FEW = 210;

        private final Row held = new Row(MOST_KINDS);
        private final Row unseenOf = new Row(MOST_KINDS);
        private final Row drawn = new Row(FEW_KINDS);
        // What comes of a hand and the cards drawn so far is asked often and is the same on each way to it.
        private final Row handRanks = new Row(HAND_CODES);
        private final Row drawRanks = new Row(DRAW_CODES);
        private final Row known = new Row(HANDS_OF_FEW * DRAWS_OF_FEW);
        private int kinds;
        private int alike;
        private int unseenCards;

        Odds() {
            rank(handRanks, HAND_CODES, MOST_HELD);
            rank(drawRanks, DRAW_CODES, MOST_COMING);
        }

        // Codes have figures of base 5; those with too many cards in all never come and need no rank.
        private static void rank(Row ranks, int codes, int mostCards) {
            int rank = 0;
            for (int code = 0; code < codes; code++) {
                int cards = code / 125 + code / 25 % 5 + code / 5 % 5 + code % 5;
                ranks.push(rank);
                rank += cards <= mostCards ? 1 : 0;
            }
        }

        boolean lie(Table t, Sheet hand) {
            kinds = t.kinds();
            alike = t.alike();
            unseenCards = t.pack();
            held.fill(MOST_KINDS, 0);
            unseenOf.fill(MOST_KINDS, 0);
            drawn.fill(FEW_KINDS, 0);
            for (int kind = 0; kind < kinds; kind++) {
                unseenOf.set(kind, t.number(COPIES));
            }
            boolean fit = hand.held.size() == alike;
            for (int i = 0; i < hand.held.size(); i++) {
                fit &= see(hand.held.get(i));
                held.add(hand.held.get(i), 1);
            }
            for (int i = 0; i < hand.gone.size(); i++) {
                fit &= see(hand.gone.get(i));
            }
            return fit;
        }

        private boolean see(int kind) {
            unseenOf.add(kind, -1);
            unseenCards--;
            return kind < kinds && unseenOf.get(kind) >= 0;
        }

        boolean mayCome(int n) {
            return n >= 0 && n <= MOST_COMING && n <= unseenCards;
        }

        int answer(int what) {
            if (what == 1) {
                return unseenCards;
            }
            if (what == 2) {
                return starved();
            }
            return what >= 10 && what < 10 + kinds ? unseenOf.get(what - 10) : NONE;
        }

        private int starved() {
            int bits = 0;
            for (int kind = 0; kind < kinds; kind++) {
                if (held.get(kind) + unseenOf.get(kind) < alike) {
                    bits |= 1 << kind;
                }
            }
            return bits;
        }

        private boolean hasAlike() {
            for (int kind = 0; kind < kinds; kind++) {
                if (held.get(kind) >= alike) {
                    return true;
                }
            }
            return false;
        }

        long likely(int n, boolean under) {
            forget();
            return leastTerms(goodOrders(this, n), orders(n), under);
        }

        private void forget() {
            known.fill(HANDS_OF_FEW * DRAWS_OF_FEW, NONE);
        }

        // In how many orders so many UNSEEN ones can come.
        private int orders(int n) {
            int all = 1;
            for (int i = 0; i < n; i++) {
                all *= unseenCards - i;
            }
            return all;
        }

        // By how many of the orders of the next n he gets there, if he hands on as is best.
        private static int goodOrders(Odds odds, int n) {
            if (odds.hasAlike()) {
                return odds.orders(n);
            }
            if (n <= 0) {
                return 0;
            }
            int key = odds.key();
            int good = odds.known.get(key);
            if (good != NONE) {
                return good;
            }
            good = 0;
            for (int kind = 0; kind < FEW_KINDS; kind++) {
                int many = odds.unseenOf.get(kind);
                if (many > 0) {
                    odds.draw(kind, 1);
                    good += many * bestOrders(odds, n - 1);
                    odds.draw(kind, -1);
                }
            }
            odds.known.set(key, good);
            return good;
        }

        private static int bestOrders(Odds odds, int n) {
            int best = 0;
            for (int kind = 0; kind < FEW_KINDS; kind++) {
                if (odds.held.get(kind) > 0) {
                    best = Math.max(best, odds.ordersWithout(kind, n));
                }
            }
            return best;
        }

        private int ordersWithout(int kind, int n) {
            held.add(kind, -1);
            int good = goodOrders(this, n);
            held.add(kind, 1);
            return good;
        }

        private void draw(int kind, int many) {
            unseenOf.add(kind, -many);
            held.add(kind, many);
            drawn.add(kind, many);
            unseenCards -= many;
        }

        private int key() {
            int hand = held.get(0) * 25 + held.get(1) * 5 + held.get(2);
            int draws = drawn.get(0) * 125 + drawn.get(1) * 25 + drawn.get(2) * 5 + drawn.get(3);
            return handRanks.get(hand) * DRAWS_OF_FEW + drawRanks.get(draws);
        }

        int bestHandedOn(int n, int kind) {
            if (unseenOf.get(kind) == 0 || hasAlike()) {
                return NONE;
            }
            forget();
            draw(kind, 1);
            int best = NONE;
            int most = 0;
            for (int k = 0; k < FEW_KINDS; k++) {
                if (held.get(k) > 0) {
                    int good = ordersWithout(k, n - 1);
                    if (best == NONE || good > most) {
                        best = k;
                        most = good;
                    }
                }
            }
            return best;
        }

        long likelyAlone(int kind, int n, boolean under) {
            long good = choicesWith(kind, n, alike - held.get(kind));
            return leastTerms(good, choices(unseenCards, n), under);
        }

        long likelyKept(int kind, int j, boolean under) {
            return leastTerms(choicesWith(kind, alike, j), choices(unseenCards, alike), under);
        }

        // How many sets of n UNSEEN cards have at least so many of a KIND.
        private long choicesWith(int kind, int n, int least) {
            int many = unseenOf.get(kind);
            long good = 0;
            for (int i = Math.max(0, least); i <= n; i++) {
                good += choices(many, i) * choices(unseenCards - many, n - i);
            }
            return good;
        }

        private static long choices(int of, int n) {
            if (n < 0 || n > of) {
                return 0;
            }
            long ways = 1;
            for (int i = 1; i <= n; i++) {
                ways = ways * (of - n + i) / i;
            }
            return ways;
        }

        int soonestBy(Row cards, boolean askKind) {
            for (int i = 0; i < cards.size(); i++) {
                if (cards.get(i) >= kinds) {
                    return NONE;
                }
            }
            for (int kind = 0; kind < kinds; kind++) {
                if (held.get(kind) >= alike) {
                    return askKind ? kind : 0;
                }
            }
            for (int i = 0; i < cards.size(); i++) {
                int kind = cards.get(i);
                held.add(kind, 1);
                if (held.get(kind) >= alike) {
                    return askKind ? kind : i + 1;
                }
            }
            return NONE;
        }
    }

    // How often to look at the spoons, and who falls for a hand that goes out.
    private static final class Looks {
        private static final int MOST_PLAYERS = 5;
        private static final int MOST_WAYS = 243;
        private static final int CHOICES = 3;
        // EYES 1, 2, 3 look in the same way each six tenths, ten times in all that are looked at.
        private static final int SAME_AGAIN = 6;
        private static final int TIMES = LOOKED_AT / SAME_AGAIN;

        private final Table chosen = new Table();
        private final Row costs = new Row(MOST_WAYS * MOST_PLAYERS);

        Looks() {
            costs.fill(MOST_WAYS * MOST_PLAYERS, 0);
        }

        static int lasts(Table t, int person, int first) {
            int many = 0;
            for (int tenth = 0; tenth < LOOKED_AT; tenth++) {
                many += t.lastOf(first, tenth) == person ? 1 : 0;
            }
            return many;
        }

        int bestEyes(Table t, int person, int first) {
            chosen.copy(t);
            int best = NONE;
            int least = 0;
            for (int eyes = 1; eyes <= 9; eyes++) {
                chosen.setOf(person, EYES, eyes);
                int all = lasts(chosen, person, first) + LOOKED_AT / eyes;
                if (best == NONE || all < least) {
                    best = eyes;
                    least = all;
                }
            }
            return best;
        }

        static int waysOf(int people) {
            int ways = 1;
            for (int p = 0; p < people && p < MOST_PLAYERS; p++) {
                ways *= CHOICES;
            }
            return ways;
        }

        int costOf(Table t, int person, int way) {
            weigh(t, way);
            return costs.get(way * MOST_PLAYERS + person);
        }

        private void weigh(Table t, int way) {
            int people = t.people();
            int base = way * MOST_PLAYERS;
            chosen.copy(t);
            int figures = way;
            for (int p = people - 1; p >= 0; p--) {
                int eyes = figures % CHOICES + 1;
                figures /= CHOICES;
                chosen.setOf(p, EYES, eyes);
                costs.set(base + p, eyes > 0 ? 20 * people / eyes : 0);
            }
            for (int first = 0; first < people; first++) {
                for (int tenth = 0; tenth < SAME_AGAIN; tenth++) {
                    int last = chosen.lastOf(first, tenth);
                    costs.add(base + last, last == first ? 0 : TIMES);
                }
            }
        }

        // How many ways REST (k NONE), or the k-th.
        int resting(Table t, int k) {
            int ways = waysOf(t.people());
            for (int way = 0; way < ways; way++) {
                weigh(t, way);
            }
            int many = 0;
            for (int way = 0; way < ways; way++) {
                if (isRest(t.people(), way)) {
                    if (many == k) {
                        return way;
                    }
                    many++;
                }
            }
            return k == NONE ? many : NONE;
        }

        private boolean isRest(int people, int way) {
            int weight = 1;
            int figures = way;
            for (int p = people - 1; p >= 0; p--) {
                int figure = figures % CHOICES;
                figures /= CHOICES;
                int cost = costs.get(way * MOST_PLAYERS + p);
                for (int other = 0; other < CHOICES; other++) {
                    int elsewhere = way + (other - figure) * weight;
                    if (costs.get(elsewhere * MOST_PLAYERS + p) < cost) {
                        return false;
                    }
                }
                weight *= CHOICES;
            }
            return true;
        }

        static int farther(Table t, int person) {
            int most = 0;
            for (int p = 0; p < t.people(); p++) {
                most = Math.max(most, waits(t, p));
            }
            // Half a tenth goes to the lesser one.
            return (most - waits(t, person) + (LOOKED_AT - 1) / 2) / LOOKED_AT;
        }

        private static int waits(Table t, int person) {
            int all = 0;
            for (int tenth = 0; tenth < LOOKED_AT; tenth++) {
                all += t.waitOf(person, tenth);
            }
            return all;
        }

        static int touching(Table t, int person, int at) {
            int bits = 0;
            for (int p = 0; p < t.people(); p++) {
                if (p != person && t.of(p, JUMPY) == 1 && looksIn(t, p, at)) {
                    bits |= 1 << p;
                }
            }
            return bits;
        }

        private static boolean looksIn(Table t, int person, int at) {
            int until = at + t.number(OUTSTRETCHED);
            for (int tenth = at; tenth <= until; tenth++) {
                if (t.goesInto(person, EYES, tenth)) {
                    return true;
                }
            }
            return false;
        }

        static int lure(Table t, int person) {
            int best = 0;
            int most = 0;
            for (int at = 0; at < LOOKED_AT; at++) {
                int many = Integer.bitCount(touching(t, person, at));
                if (many > most) {
                    best = at;
                    most = many;
                }
            }
            return best;
        }
    }
}

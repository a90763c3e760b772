import java.util.Arrays;

/** Exchanges many phrases of a line at once, and tells what comes of it. */
public final class PhraseSwaps {
    public static final int BAD = -1, NOT = -2, FULL = -3, NONE = -4, NULL = -11, CAST = -12, INDEX = -13, SIZE = -14, STORE = -15;

    private static final int MOST_LETTERS = 60;
    private static final int MOST_RULES = 10;
    private static final int MOST_SPELT = 6;
    private static final int MOST_MADE = 360;
    private static final int MOST_TAPE = 150;
    private static final int MOST_PILED = 4;
    private static final int MOST_UNDONE = 8;
    private static final int MOST_PASSES = 20;
    private static final int MOST_ITEMS = 60;
    private static final int SHEETS = 4;
    private static final int LANES = 4;

    private static final int PLAIN = 0, WHOLE = 1, FRONT = 2, TURNED = 3, ONCE = 4, KINDS = 5;
    private static final int ANY_SORT = 0, WHOLE_SORT = 1, FRONT_SORT = 2;
    private static final int NO = 0, YES = 1, MAYBE = 2;
    private static final int WELL = 0;
    private static final int END = -1;
    private static final int FIRST_FAULT = -20;

    private final Tape tape = new Tape();
    private final State now = new State();
    private final State kept = new State();
    private boolean hasImage = false;
    private final Row draftLetters = new Row(MOST_LETTERS);
    private final Book draftBook = new Book();
    private final Walk walk = new Walk(now.book);
    private final Line later = new Line(MOST_LETTERS);
    private final Row tally = new Row(MOST_RULES + 1);
    private final Sheet[] sheets = new Sheet[SHEETS];
    private int pileSort = NONE;
    private int pileSet = 0;

    public PhraseSwaps() {
        for (int k = 0; k < SHEETS; k++) {
            sheets[k] = new Sheet();
        }
    }

    // ---- 1 the line, rules

    public int type(int letter) {
        if (letter < 32 || letter > 126) {
            return BAD;
        }
        return tape.signs.add(letter) ? tape.signs.size() : FULL;
    }

    public int job() {
        tape.rewind();
        tape.readLetters(draftLetters);
        boolean well = tape.readRules(draftBook);
        int fault = tape.fault();
        tape.signs.clear();
        if (!well) {
            return fault;
        }
        now.begin(draftLetters, draftBook);
        pileSort = NONE;
        return now.book.size();
    }

    public int rule() {
        Rule read = draftBook.get(0);
        tape.rewind();
        boolean well = tape.readRule(read) && tape.next() == END;
        int fault = tape.fault();
        tape.signs.clear();
        if (!well) {
            return fault;
        }
        return now.addRule(read) ? now.book.size() - 1 : FULL;
    }

    public int of(int rule, int what) {
        if (!now.book.has(rule)) {
            return BAD;
        }
        Rule asked = now.book.get(rule);
        switch (what) {
            case 0: return asked.kind;
            case 1: return asked.phrase.size();
            case 2: return asked.gift.size();
            case 3: return (now.moment.on >> rule) & 1;
            case 4: return usesOf(rule);
            default: return BAD;
        }
    }

    public int spelt(int rule, int what, int k) {
        if (!now.book.has(rule) || !isWithin(what, 2) || !isWithin(k, MOST_SPELT)) {
            return BAD;
        }
        Rule asked = now.book.get(rule);
        Row letters = what == 0 ? asked.phrase : asked.gift;
        if (k >= letters.size()) {
            return NONE;
        }
        return what == 0 ? letters.get(k) : asked.given(k, asked.kind);
    }

    public int at(int place, int what) {
        Line line = now.moment.line;
        if (!isWithin(place, line.size()) || !isWithin(what, 2)) {
            return BAD;
        }
        return what == 0 ? line.letters.get(place) : line.sources.get(place);
    }

    public int count(int what) {
        switch (what) {
            case 0: return now.moment.line.size();
            case 1: return now.book.size();
            case 2: return now.moment.on;
            case 3: return idleRules();
            case 4: return pileSort == NONE ? NONE : pileSet;
            case 5: return pileSort;
            case 6: return now.history.size();
            default: return BAD;
        }
    }

    // ---- what is done

    public int change(int place, int letter) {
        Line line = now.moment.line;
        if (!isWithin(place, line.size()) || !isLetter(letter)) {
            return BAD;
        }
        int before = line.letters.get(place);
        if (before == letter) {
            return NOT;
        }
        now.remember();
        line.letters.set(place, letter);
        return before;
    }

    public int turn(int rule) {
        if (!now.book.has(rule)) {
            return BAD;
        }
        now.remember();
        now.moment.on ^= 1 << rule;
        return (now.moment.on >> rule) & 1;
    }

    public int pass(int set) {
        if (set < 0 || (set & ~now.book.all()) != 0) {
            return BAD;
        }
        return goThrough(set);
    }

    public int pile(int sort) {
        if (sort != ANY_SORT && sort != WHOLE_SORT && sort != FRONT_SORT) {
            return BAD;
        }
        pileSort = sort;
        pileSet = 0;
        int fitting = 0;
        for (int k = 0; k < now.book.size(); k++) {
            if (isOfSort(now.book.get(k).kind, sort)) {
                fitting++;
            }
        }
        return fitting;
    }

    public int put(int rule) {
        if (!now.book.has(rule)) {
            return BAD;
        }
        if (pileSort == NONE) {
            return NULL;
        }
        if (((pileSet >> rule) & 1) == 1) {
            return NOT;
        }
        if (Integer.bitCount(pileSet) >= MOST_PILED) {
            return INDEX;
        }
        if (!isOfSort(now.book.get(rule).kind, pileSort)) {
            return STORE;
        }
        pileSet |= 1 << rule;
        return Integer.bitCount(pileSet);
    }

    public int passPile() {
        return pileSort == NONE ? NULL : goThrough(pileSet);
    }

    public int undo() {
        return now.goBack() ? now.history.size() : NONE;
    }

    // ---- 2 looked for

    public int comes(int what, int place) {
        if (!isWithin(what, 4)) {
            return BAD;
        }
        Line made = whatComes();
        if (what == 0) {
            return made.size();
        }
        if (what == 3) {
            return made.size() <= MOST_LETTERS ? 1 : 0;
        }
        if (!isWithin(place, made.size())) {
            return BAD;
        }
        return what == 1 ? made.letters.get(place) : made.sources.get(place);
    }

    public int used(int place) {
        if (!isWithin(place, now.moment.line.size())) {
            return BAD;
        }
        whatComes();
        return walk.usedAt.get(place);
    }

    public int went(int source) {
        if (!isWithin(source, MOST_LETTERS)) {
            return BAD;
        }
        Row sources = whatComes().sources;
        for (int k = 0; k < sources.size(); k++) {
            if (sources.get(k) == source) {
                return k;
            }
        }
        return NONE;
    }

    public int rest() {
        later.takeFrom(now.moment.line);
        for (int passes = 0; passes <= MOST_PASSES; passes++) {
            walk.prepare(later);
            walk.go(later, now.moment.on);
            if (walk.made.size() > MOST_LETTERS) {
                return NONE;
            }
            if (walk.made.letters.isSame(later.letters)) {
                return passes;
            }
            later.takeFrom(walk.made);
        }
        return NONE;
    }

    public int sure(int n) {
        Line line = now.moment.line;
        if (n < 0 || n > line.size()) {
            return BAD;
        }
        walk.prepare(line);
        return walk.sureOf(line, n, now.moment.on);
    }

    public int lean(int what) {
        if (!isWithin(what, 2)) {
            return BAD;
        }
        Line line = now.moment.line;
        walk.prepare(line);
        int leanest = NONE;
        int fewest = NONE;
        for (int k = 0; k < now.book.size(); k++) {
            int bit = 1 << k;
            if ((now.moment.on & bit) != 0) {
                int length = walk.lengthBy(line, now.moment.on & ~bit);
                if (leanest == NONE || length < fewest) {
                    leanest = k;
                    fewest = length;
                }
            }
        }
        return what == 0 ? leanest : fewest;
    }

    public long longOdds(int m, int c, int what) {
        if (!isWithin(m, MOST_MADE + 1) || !isWithin(c, 11) || !isWithin(what, 2)) {
            return BAD;
        }
        walk.prepare(now.moment.line);
        int choices = walk.standing() & now.moment.on;
        tallyShortOnes(m, choices);
        int size = Integer.bitCount(choices);
        long above = 0;
        for (int k = 0; k <= size; k++) {
            above += tally.get(k) * power(10 - c, k) * power(c, size - k);
        }
        long below = power(10, size);
        long common = commonDivisor(above, below);
        if (common == 0) {
            return BAD;
        }
        return what == 0 ? above / common : below / common;
    }

    public int image() {
        kept.takeFrom(now);
        hasImage = true;
        return 1;
    }

    public int restore() {
        if (!hasImage) {
            return NONE;
        }
        now.takeFrom(kept);
        pileSort = NONE;
        return 1;
    }

    // ---- 3 sheets

    public int came(int rule, int sheet, int lane, int i, int n) {
        if (!now.book.has(rule) || !isLaneOfSheet(sheet, lane) || !isWithin(n, MOST_ITEMS + 1)) {
            return BAD;
        }
        Sheet told = sheets[sheet];
        int refusal = told.refusal(lane, i, n);
        if (refusal != WELL) {
            return refusal;
        }
        Line line = now.moment.line;
        int kinds = 0;
        for (int kind = 0; kind < KINDS; kind++) {
            walk.prepareAs(line, rule, kind);
            walk.go(line, now.moment.on);
            if (told.tells(walk.made.letters, i, n)) {
                kinds |= 1 << kind;
            }
        }
        return kinds;
    }

    public int film(int what, int sheet, int lane, int i) {
        if (!isWithin(what, 2) || !isLaneOfSheet(sheet, lane)) {
            return BAD;
        }
        Line made = whatComes();
        Row shown = what == 0 ? made.letters : made.sources;
        int refusal = sheets[sheet].refusal(lane, i, shown.size());
        if (refusal != WELL) {
            return refusal;
        }
        for (int k = 0; k < shown.size(); k++) {
            sheets[sheet].write(i + k, shown.get(k));
        }
        return shown.size();
    }

    public int sheet(int sheet, int lane, int n) {
        if (!isLaneOfSheet(sheet, lane) || n > MOST_ITEMS) {
            return BAD;
        }
        if (n < 0) {
            return SIZE;
        }
        sheets[sheet].begin(lane, n);
        return n;
    }

    public int drop(int sheet) {
        if (!isWithin(sheet, SHEETS)) {
            return BAD;
        }
        Sheet dropped = sheets[sheet];
        if (!dropped.there) {
            return NULL;
        }
        dropped.there = false;
        return dropped.size;
    }

    public int item(int sheet, int lane, int i, long v) {
        if (!isLaneOfSheet(sheet, lane)) {
            return BAD;
        }
        int refusal = sheets[sheet].refusal(lane, i, 1);
        if (refusal != WELL) {
            return refusal;
        }
        sheets[sheet].write(i, v);
        return 1;
    }

    public int copy(int from, int i, int to, int j, int n) {
        if (!isWithin(from, SHEETS) || !isWithin(to, SHEETS)) {
            return BAD;
        }
        Sheet source = sheets[from];
        Sheet target = sheets[to];
        if (!source.there || !target.there) {
            return NULL;
        }
        if (source.lane != target.lane) {
            return CAST;
        }
        if (!source.holds(i, n) || !target.holds(j, n)) {
            return INDEX;
        }
        System.arraycopy(source.items, i, target.items, j, n);
        return n;
    }

    private Line whatComes() {
        walk.prepare(now.moment.line);
        walk.go(now.moment.line, now.moment.on);
        return walk.made;
    }

    private int usesOf(int rule) {
        whatComes();
        return walk.uses.get(rule);
    }

    private int idleRules() {
        whatComes();
        int idle = 0;
        for (int k = 0; k < now.book.size(); k++) {
            if (walk.uses.get(k) == 0) {
                idle |= 1 << k;
            }
        }
        return idle & now.moment.on;
    }

    private int goThrough(int set) {
        Line line = now.moment.line;
        walk.prepare(line);
        walk.go(line, set & now.moment.on);
        if (walk.made.size() > MOST_LETTERS) {
            return FULL;
        }
        now.remember();
        line.takeFrom(walk.made);
        return walk.uses.sum();
    }

    /** Counts, by how many of the choices are on, the ways to come to m letters or fewer. */
    private void tallyShortOnes(int m, int choices) {
        int ways = 1 << Integer.bitCount(choices);
        tally.fill(MOST_RULES + 1, 0);
        int on = choices;
        for (int k = 0; k < ways; k++) {
            if (walk.lengthBy(now.moment.line, on) <= m) {
                tally.addTo(Integer.bitCount(on), 1);
            }
            // Taking 1 away under the mask steps through every subset once.
            on = (on - 1) & choices;
        }
    }

    private static long power(long base, int exponent) {
        long product = 1;
        for (int k = 0; k < exponent; k++) {
            product *= base;
        }
        return product;
    }

    private static long commonDivisor(long first, long second) {
        long a = first;
        long b = second;
        for (int k = 0; k < 200 && b != 0; k++) {
            long left = a % b;
            a = b;
            b = left;
        }
        return a;
    }

    private static boolean isWithin(int number, int bound) {
        return number >= 0 && number < bound;
    }

    private static boolean isLaneOfSheet(int sheet, int lane) {
        return isWithin(sheet, SHEETS) && isWithin(lane, LANES);
    }

    private static boolean isWordLetter(int sign) {
        return sign >= 'a' && sign <= 'z';
    }

    private static boolean isLetter(int sign) {
        return isWordLetter(sign) || sign == '_';
    }

    private static boolean isOfSort(int kind, int sort) {
        switch (sort) {
            case ANY_SORT: return true;
            case WHOLE_SORT: return kind == WHOLE || kind == TURNED;
            case FRONT_SORT: return kind == FRONT || kind == ONCE;
            default: return false;
        }
    }

    /** A row of numbers; that every index is tested here keeps all its users from testing it again. */
    private static final class Row {
        private final int[] items;
        private int length = 0;

        Row(int most) {
            items = new int[Math.max(0, most)];
        }

        int size() {
            return length;
        }

        int most() {
            return items.length;
        }

        int get(int i) {
            return i >= 0 && i < items.length && i < length ? items[i] : 0;
        }

        void set(int i, int v) {
            if (i >= 0 && i < items.length && i < length) {
                items[i] = v;
            }
        }

        void addTo(int i, int v) {
            set(i, get(i) + v);
        }

        boolean add(int v) {
            if (length < 0 || length >= items.length) {
                return false;
            }
            items[length] = v;
            length++;
            return true;
        }

        void clear() {
            length = 0;
        }

        void fill(int n, int v) {
            clear();
            for (int k = 0; k < n; k++) {
                add(v);
            }
        }

        void takeFrom(Row other) {
            int n = Math.min(other.length, Math.min(other.items.length, items.length));
            if (n >= 0) {
                System.arraycopy(other.items, 0, items, 0, n);
                length = n;
            }
        }

        boolean isSame(Row other) {
            if (length != other.size()) {
                return false;
            }
            for (int k = 0; k < length; k++) {
                if (get(k) != other.get(k)) {
                    return false;
                }
            }
            return true;
        }

        int sum() {
            int sum = 0;
            for (int k = 0; k < length; k++) {
                sum += get(k);
            }
            return sum;
        }
    }

    /** Letters, each with its source. */
    private static final class Line {
        private final Row letters;
        private final Row sources;

        Line(int most) {
            letters = new Row(most);
            sources = new Row(most);
        }

        int size() {
            return letters.size();
        }

        void clear() {
            letters.clear();
            sources.clear();
        }

        void add(int letter, int source) {
            letters.add(letter);
            sources.add(source);
        }

        void takeFrom(Line other) {
            letters.takeFrom(other.letters);
            sources.takeFrom(other.sources);
        }
    }

    /** A phrase of a kind, and its gift. */
    private static final class Rule {
        private int kind = PLAIN;
        private final Row phrase = new Row(MOST_SPELT);
        private final Row gift = new Row(MOST_SPELT);

        void takeFrom(Rule other) {
            kind = other.kind;
            phrase.takeFrom(other.phrase);
            gift.takeFrom(other.gift);
        }

        int given(int k, int asKind) {
            return gift.get(asKind == TURNED ? gift.size() - 1 - k : k);
        }

        /**
         * Whether the rule, as one of a kind, stands at a place, if the first letters of the line are known:
         * MAYBE, if that hangs on letters that have not come yet, which there are in an open line alone.
         */
        int stands(Line line, int place, int asKind, int known, boolean open) {
            if (asKind != PLAIN && isWordLetter(line.letters.get(place - 1))) {
                return NO;
            }
            int end = place + phrase.size();
            int seen = Math.min(end, known) - place;
            for (int k = 0; k < seen; k++) {
                if (phrase.get(k) != line.letters.get(place + k)) {
                    return NO;
                }
            }
            if (end > known) {
                return open ? MAYBE : NO;
            }
            if (!wantsEnd(asKind)) {
                return YES;
            }
            if (end == known) {
                return open ? MAYBE : YES;
            }
            return isWordLetter(line.letters.get(end)) ? NO : YES;
        }

        private static boolean wantsEnd(int kind) {
            return kind == WHOLE || kind == TURNED;
        }
    }

    /** The rules, in the order in which they came. */
    private static final class Book {
        private final Rule[] rules = new Rule[MOST_RULES];
        private final Rule blank = new Rule();
        private int size = 0;

        Book() {
            for (int k = 0; k < MOST_RULES; k++) {
                rules[k] = new Rule();
            }
        }

        int size() {
            return size;
        }

        boolean has(int rule) {
            return isWithin(rule, size);
        }

        int all() {
            return (1 << size) - 1;
        }

        Rule get(int rule) {
            return isWithin(rule, rules.length) ? rules[rule] : blank;
        }

        void clear() {
            size = 0;
        }

        /** Counts one rule more, which stands behind the others then; false, if there is no room. */
        boolean grow() {
            if (size >= MOST_RULES) {
                return false;
            }
            size++;
            return true;
        }

        void takeFrom(Book other) {
            size = other.size;
            for (int k = 0; k < size; k++) {
                get(k).takeFrom(other.get(k));
            }
        }
    }

    /** All that can be undone. */
    private static final class Moment {
        private final Line line = new Line(MOST_LETTERS);
        private int on = 0;

        void takeFrom(Moment other) {
            line.takeFrom(other.line);
            on = other.on;
        }
    }

    /** The latest moments; a ring, so that a new one takes the place of the oldest. */
    private static final class History {
        private final Moment[] moments = new Moment[MOST_UNDONE];
        private int size = 0;
        private int next = 0;

        History() {
            for (int k = 0; k < MOST_UNDONE; k++) {
                moments[k] = new Moment();
            }
        }

        int size() {
            return size;
        }

        void clear() {
            size = 0;
        }

        private Moment moment(int k) {
            return moments[Math.floorMod(k, MOST_UNDONE)];
        }

        void add(Moment moment) {
            moment(next).takeFrom(moment);
            next = Math.floorMod(next + 1, MOST_UNDONE);
            size = Math.min(size + 1, MOST_UNDONE);
        }

        boolean giveBack(Moment into) {
            if (size <= 0) {
                return false;
            }
            size--;
            next = Math.floorMod(next - 1, MOST_UNDONE);
            into.takeFrom(moment(next));
            return true;
        }

        void takeFrom(History other) {
            size = other.size;
            next = other.next;
            for (int k = 1; k <= size; k++) {
                moment(next - k).takeFrom(other.moment(next - k));
            }
        }
    }

    /** All that an image keeps. */
    private static final class State {
        private final Moment moment = new Moment();
        private final Book book = new Book();
        private final History history = new History();

        void begin(Row letters, Book rules) {
            moment.line.clear();
            for (int k = 0; k < letters.size(); k++) {
                moment.line.add(letters.get(k), k);
            }
            book.takeFrom(rules);
            moment.on = book.all();
            history.clear();
        }

        boolean addRule(Rule rule) {
            if (!book.grow()) {
                return false;
            }
            int number = book.size() - 1;
            book.get(number).takeFrom(rule);
            moment.on |= 1 << number;
            history.clear();
            return true;
        }

        void remember() {
            history.add(moment);
        }

        boolean goBack() {
            return history.giveBack(moment);
        }

        void takeFrom(State other) {
            moment.takeFrom(other.moment);
            book.takeFrom(other.book);
            history.takeFrom(other.history);
        }
    }

    /** The tape, read sign by sign; where reading stopped is where the fault is. */
    private static final class Tape {
        private final Row signs = new Row(MOST_TAPE);
        private int place = 0;

        void rewind() {
            place = 0;
        }

        int next() {
            while (place < signs.size() && signs.get(place) == ' ') {
                place++;
            }
            return place < signs.size() ? signs.get(place) : END;
        }

        private boolean takes(int sign) {
            if (next() != sign) {
                return false;
            }
            place++;
            return true;
        }

        int fault() {
            next();
            return FIRST_FAULT - place;
        }

        void readLetters(Row into) {
            into.clear();
            for (int k = 0; k < into.most() && isLetter(next()); k++) {
                into.add(next());
                place++;
            }
        }

        boolean readRule(Rule into) {
            int kind = kindOf(next());
            if (kind == NONE) {
                return false;
            }
            place++;
            into.kind = kind;
            if (!takes(':')) {
                return false;
            }
            readLetters(into.phrase);
            if (into.phrase.size() == 0 || !takes('=')) {
                return false;
            }
            readLetters(into.gift);
            return true;
        }

        boolean readRules(Book into) {
            into.clear();
            for (int k = 0; k < MOST_RULES && takes(';'); k++) {
                if (!readRule(into.get(k)) || !into.grow()) {
                    return false;
                }
            }
            return next() == END;
        }

        private static int kindOf(int sign) {
            switch (sign) {
                case 'p': return PLAIN;
                case 'w': return WHOLE;
                case 'f': return FRONT;
                case 't': return TURNED;
                case 'o': return ONCE;
                default: return NONE;
            }
        }
    }

    /** Goes through a line by rules of a book, and holds what came of it. */
    private static final class Walk {
        private final Book book;
        private final Row order = new Row(MOST_RULES);
        private final Row kinds = new Row(MOST_RULES);
        private final Row standingAt = new Row(MOST_LETTERS);
        private final Row usedAt = new Row(MOST_LETTERS);
        private final Row uses = new Row(MOST_RULES);
        private final Line made = new Line(MOST_MADE);

        Walk(Book book) {
            this.book = book;
        }

        /** Finds once where rules stand, so that many sets of them can go through the line. */
        void prepare(Line line) {
            putInOrder();
            takeKinds();
            findStanding(line);
        }

        /** Likewise, as if one rule were of another kind. */
        void prepareAs(Line line, int changed, int kind) {
            putInOrder();
            takeKinds();
            kinds.set(changed, kind);
            findStanding(line);
        }

        private void putInOrder() {
            order.clear();
            for (int length = MOST_SPELT; length > 0; length--) {
                for (int k = 0; k < book.size(); k++) {
                    if (book.get(k).phrase.size() == length) {
                        order.add(k);
                    }
                }
            }
        }

        private void takeKinds() {
            kinds.clear();
            for (int k = 0; k < book.size(); k++) {
                kinds.add(book.get(k).kind);
            }
        }

        private void findStanding(Line line) {
            standingAt.clear();
            for (int place = 0; place < line.size(); place++) {
                int set = 0;
                for (int k = 0; k < book.size(); k++) {
                    if (book.get(k).stands(line, place, kinds.get(k), line.size(), false) == YES) {
                        set |= 1 << k;
                    }
                }
                standingAt.add(set);
            }
        }

        /** The rules that stand anywhere; the others change nothing, on or off. */
        int standing() {
            int set = 0;
            for (int place = 0; place < standingAt.size(); place++) {
                set |= standingAt.get(place);
            }
            return set;
        }

        void go(Line line, int rules) {
            made.clear();
            usedAt.fill(line.size(), NONE);
            uses.fill(book.size(), 0);
            int set = rules;
            int place = 0;
            for (int step = 0; step < line.size() && place < line.size(); step++) {
                int rule = ruleUsed(place, set);
                if (rule == NONE) {
                    made.add(line.letters.get(place), line.sources.get(place));
                } else {
                    give(rule, line.sources.get(place));
                    usedAt.set(place, rule);
                    uses.addTo(rule, 1);
                }
                set = leftOf(set, rule);
                place += lengthGone(rule);
            }
        }

        int lengthBy(Line line, int rules) {
            int length = 0;
            int set = rules;
            int place = 0;
            for (int step = 0; step < line.size() && place < line.size(); step++) {
                int rule = ruleUsed(place, set);
                length += rule == NONE ? 1 : book.get(rule).gift.size();
                set = leftOf(set, rule);
                place += lengthGone(rule);
            }
            return length;
        }

        int sureOf(Line line, int n, int rules) {
            int set = rules;
            int place = 0;
            for (int step = 0; step < n && place < n; step++) {
                int rule = firstPossible(line, place, n, set);
                if (rule != NONE && standsInOpen(line, place, n, rule) == MAYBE) {
                    return place;
                }
                set = leftOf(set, rule);
                place += lengthGone(rule);
            }
            return place;
        }

        private int ruleUsed(int place, int set) {
            int standing = standingAt.get(place) & set;
            if (standing == 0) {
                return NONE;
            }
            for (int k = 0; k < order.size(); k++) {
                if (((standing >> order.get(k)) & 1) == 1) {
                    return order.get(k);
                }
            }
            return NONE;
        }

        /**
         * The first in order that stands, or may. If it stands for sure, it is used whatever comes;
         * if it only may, it is used by one end of the line and not by another.
         */
        private int firstPossible(Line line, int place, int n, int set) {
            for (int k = 0; k < order.size(); k++) {
                int rule = order.get(k);
                if (((set >> rule) & 1) == 1 && standsInOpen(line, place, n, rule) != NO) {
                    return rule;
                }
            }
            return NONE;
        }

        private int standsInOpen(Line line, int place, int n, int rule) {
            return book.get(rule).stands(line, place, kinds.get(rule), n, true);
        }

        private void give(int rule, int source) {
            Rule giver = book.get(rule);
            for (int k = 0; k < giver.gift.size(); k++) {
                made.add(giver.given(k, kinds.get(rule)), source);
            }
        }

        private int leftOf(int set, int rule) {
            return rule != NONE && kinds.get(rule) == ONCE ? set & ~(1 << rule) : set;
        }

        private int lengthGone(int rule) {
            return rule == NONE ? 1 : book.get(rule).phrase.size();
        }
    }

    /** A row of a lane, or nothing. */
    private static final class Sheet {
        private final long[] items = new long[MOST_ITEMS];
        private boolean there = false;
        private int lane = 0;
        private int size = 0;

        void begin(int newLane, int n) {
            Arrays.fill(items, 0L);
            there = true;
            lane = newLane;
            size = n;
        }

        int refusal(int asLane, int i, int n) {
            if (!there) {
                return NULL;
            }
            if (lane != asLane) {
                return CAST;
            }
            return holds(i, n) ? WELL : INDEX;
        }

        boolean holds(int i, int n) {
            return i >= 0 && n >= 0 && n <= size && i <= size - n;
        }

        boolean tells(Row letters, int i, int n) {
            if (letters.size() != n || !holds(i, n)) {
                return false;
            }
            for (int k = 0; k < n; k++) {
                if (items[i + k] != letters.get(k)) {
                    return false;
                }
            }
            return true;
        }

        void write(int i, long v) {
            if (holds(i, 1)) {
                items[i] = lowestBits(v);
            }
        }

        private long lowestBits(long v) {
            switch (lane) {
                case 0: return (byte) v;
                case 1: return (short) v;
                case 2: return (int) v;
                default: return v;
            }
        }
    }
}

import java.util.Arrays;

/**
 * Grammars that one types, and texts of them: what the names of a grammar can be, begin with and
 * be followed by; of a text whether it is of the grammar, how it may go on, its trees, and what it
 * would take to put it right; the same texts without empty rules and units.
 */
public final class GrammarHouse {
    /** There is none. */
    public static final int NONE = -1;
    /** The refusals. */
    public static final int UNKNOWN = -1001, OUTSIDE = -1002, STATE = -1003, FULL = -1004;

    private static final int SIGNS = 240, NAMES = 8, RULES = 20, PARTS = 4, NESTED = 3;
    private static final int LETTERS = 8, PLACES = LETTERS + 1, ALPHABET = 26, THE_END = 26;
    private static final int DRAWS = 60, SEEDS = 65536, STEPS = 300;
    private static final int SEVERAL = -2, FAULTY = -10;
    /** Stands for "no number of letters will do"; a few of them added up are still an int. */
    private static final int FAR = 1 << 24;
    /** One more than trees are counted to; a count that would be more stays at this. */
    private static final long MANY = 1000000000000000000L;

    private final Tape tape;
    private final Reader reader;
    private final Grammar grammar;
    private final Facts facts;
    private final Text text;
    private final Chart chart;
    private final Wants wants;
    private final Forest forest;
    private final Picker picker;
    private final Proper leanest;
    private boolean hasGrammar;

    public GrammarHouse() {
        tape = new Tape();
        reader = new Reader(tape);
        grammar = new Grammar();
        facts = new Facts(grammar);
        text = new Text(grammar, facts);
        chart = new Chart(grammar, facts, text);
        wants = new Wants(grammar, facts, text, chart);
        forest = new Forest(grammar, facts, text, chart);
        picker = new Picker(grammar, text, forest);
        leanest = new Proper(grammar, facts);
    }

    // ---- grammars

    public int type(int a, int b, int c, int d, int e) {
        if (!(Tape.areSigns(a) && Tape.areSigns(b) && Tape.areSigns(c) && Tape.areSigns(d) && Tape.areSigns(e))) {
            return OUTSIDE;
        }
        int more = Tape.signsIn(a) + Tape.signsIn(b) + Tape.signsIn(c) + Tape.signsIn(d) + Tape.signsIn(e);
        if (tape.count + more > SIGNS) {
            return FULL;
        }
        tape.append(a);
        tape.append(b);
        tape.append(c);
        tape.append(d);
        tape.append(e);
        return tape.count;
    }

    public int wipe() {
        int had = tape.count;
        tape.count = 0;
        return had;
    }

    public int sign(int k) {
        return k < 0 || k >= tape.count ? UNKNOWN : tape.signAt(k);
    }

    public int read() {
        if (!reader.run()) {
            return FAULTY - reader.fault;
        }
        reader.draft.fill(grammar);
        facts.find();
        hasGrammar = true;
        text.count = 0;
        leanest.found = false;
        textChanged(-1);
        return grammar.rules;
    }

    public int fault(int what) {
        switch (what) {
            case 0: return reader.fault;
            case 1: return reader.place;
            default: return OUTSIDE;
        }
    }

    public int sum(int what) {
        if (what < 0 || what > 6) {
            return OUTSIDE;
        }
        if (!hasGrammar) {
            return STATE;
        }
        switch (what) {
            case 0: return grammar.told;
            case 1: return grammar.names;
            case 2: return grammar.rules;
            case 3: return grammar.allParts();
            case 4: return text.count;
            case 5: return facts.clashes();
            default: return picker.count;
        }
    }

    public int name(int n, int what) {
        if (hasGrammar && !isName(n)) {
            return UNKNOWN;
        }
        if (what < 0 || what > 7) {
            return OUTSIDE;
        }
        if (!hasGrammar) {
            return STATE;
        }
        switch (what) {
            case 0: return grammar.firstRule[n];
            case 1: return grammar.ruleCount[n];
            case 2: return facts.empty >> n & 1;
            case 3: return facts.ending >> n & 1;
            case 4: return facts.reached >> n & 1;
            case 5: return facts.useful >> n & 1;
            case 6: return facts.least[n] < FAR ? facts.least[n] : NONE;
            default: return facts.over[n] >> n & 1;
        }
    }

    public int nameSign(int n, int k) {
        if (hasGrammar && !isName(n)) {
            return UNKNOWN;
        }
        if (k < 0) {
            return OUTSIDE;
        }
        return hasGrammar ? grammar.signOf(n, k) : STATE;
    }

    public int rule(int r, int what) {
        if (hasGrammar && !isRule(r)) {
            return UNKNOWN;
        }
        if (what < 0 || what > 1) {
            return OUTSIDE;
        }
        if (!hasGrammar) {
            return STATE;
        }
        return what == 0 ? grammar.nameOfRule[r] : grammar.size[r];
    }

    public int part(int r, int i) {
        if (!hasGrammar) {
            return STATE;
        }
        if (!isRule(r) || i < 0 || i >= grammar.size[r]) {
            return UNKNOWN;
        }
        return grammar.partAt(r, i);
    }

    public int first(int n) {
        if (!hasGrammar) {
            return STATE;
        }
        return isName(n) ? facts.first[n] : UNKNOWN;
    }

    public int follow(int n) {
        if (!hasGrammar) {
            return STATE;
        }
        return isName(n) ? facts.follow[n] : UNKNOWN;
    }

    public int table(int n, int letter) {
        if (hasGrammar && !isName(n)) {
            return UNKNOWN;
        }
        if (letter < 0 || letter > THE_END) {
            return OUTSIDE;
        }
        return hasGrammar ? facts.ruleFor(n, letter) : STATE;
    }

    // ---- the text

    public int put(int letter) {
        if (letter < 0 || letter >= ALPHABET) {
            return OUTSIDE;
        }
        if (!hasGrammar) {
            return STATE;
        }
        if (text.count >= LETTERS) {
            return FULL;
        }
        textChanged(text.count);
        text.letters[text.count] = letter;
        text.count++;
        return text.count;
    }

    public int back(int n) {
        if (n < 0 || n > text.count) {
            return OUTSIDE;
        }
        if (!hasGrammar) {
            return STATE;
        }
        text.count -= n;
        textChanged(text.count);
        return text.count;
    }

    public int made(int seed) {
        if (seed < 0 || seed >= SEEDS) {
            return OUTSIDE;
        }
        if (!hasGrammar) {
            return STATE;
        }
        if (!text.compose(seed)) {
            return NONE;
        }
        textChanged(0);
        return text.count;
    }

    public int letter(int k) {
        if (!hasGrammar) {
            return STATE;
        }
        return k < 0 || k >= text.count ? UNKNOWN : text.letters[k];
    }

    public int accepts(int k) {
        if (!hasGrammar) {
            return STATE;
        }
        if (!isPlace(k)) {
            return UNKNOWN;
        }
        chart.refresh();
        return chart.covers(0, 0, k) ? 1 : 0;
    }

    public int next(int k) {
        if (!hasGrammar) {
            return STATE;
        }
        if (!isPlace(k)) {
            return UNKNOWN;
        }
        chart.refresh();
        return chart.goOn[k];
    }

    public int items(int k) {
        if (!hasGrammar) {
            return STATE;
        }
        if (!isPlace(k)) {
            return UNKNOWN;
        }
        chart.refresh();
        return chart.itemCount[k];
    }

    public int isItem(int r, int d, int i, int k) {
        if (hasGrammar && !(isRule(r) && isPlace(i) && isPlace(k))) {
            return UNKNOWN;
        }
        if (d < 0 || hasGrammar && d > grammar.size[r]) {
            return OUTSIDE;
        }
        if (!hasGrammar) {
            return STATE;
        }
        chart.refresh();
        return chart.hasItem(r, d, i, k) ? 1 : 0;
    }

    public int makes(int n, int i, int j) {
        if (hasGrammar && !(isName(n) && isPlace(i) && isPlace(j))) {
            return UNKNOWN;
        }
        if (i > j) {
            return OUTSIDE;
        }
        if (!hasGrammar) {
            return STATE;
        }
        chart.refresh();
        return chart.covers(n, i, j) ? 1 : 0;
    }

    public int end(int k) {
        if (!hasGrammar) {
            return STATE;
        }
        if (!isPlace(k)) {
            return UNKNOWN;
        }
        chart.refresh();
        return wants.behind(k);
    }

    public int repair() {
        return hasGrammar ? wants.changes() : STATE;
    }

    // ---- trees

    public long trees(int n, int i, int j) {
        if (hasGrammar && !(isName(n) && isPlace(i) && isPlace(j))) {
            return UNKNOWN;
        }
        if (i > j) {
            return OUTSIDE;
        }
        if (!hasGrammar) {
            return STATE;
        }
        chart.refresh();
        long many = forest.treesOf(n, i, j);
        return many < MANY ? many : SEVERAL;
    }

    public int pick(long k) {
        if (k < 0 || k >= MANY) {
            return OUTSIDE;
        }
        if (!hasGrammar) {
            return STATE;
        }
        chart.refresh();
        return k < forest.treesOf(0, 0, text.count) ? picker.choose(k) : NONE;
    }

    public int step(int i) {
        if (!hasGrammar || picker.count == 0) {
            return STATE;
        }
        return i < 0 || i >= picker.count ? UNKNOWN : picker.steps[i];
    }

    public int deep() {
        return hasGrammar && picker.count > 0 ? picker.deepest : STATE;
    }

    // ---- the proper grammar

    public int proper(int what) {
        if (what < 0 || what > 2) {
            return OUTSIDE;
        }
        if (!hasGrammar) {
            return STATE;
        }
        leanest.find();
        switch (what) {
            case 0: return leanest.pairs;
            case 1: return Integer.bitCount(leanest.owning);
            default: return leanest.parts;
        }
    }

    public int properly(int k) {
        if (!hasGrammar) {
            return STATE;
        }
        if (!isPlace(k)) {
            return UNKNOWN;
        }
        chart.refresh();
        // The proper grammar has the same texts but the empty one.
        return k > 0 && chart.covers(0, 0, k) ? 1 : 0;
    }

    public long digest() {
        long h = mix(mix(mix(17, tape.count), reader.fault), reader.place);
        if (!hasGrammar) {
            return h;
        }
        for (int what = 0; what <= 6; what++) {
            h = mix(h, sum(what));
        }
        for (int n = 0; n < grammar.names; n++) {
            for (int what = 0; what <= 7; what++) {
                h = mix(h, name(n, what));
            }
            h = mix(mix(h, facts.first[n]), facts.follow[n]);
        }
        for (int k = 0; k < text.count; k++) {
            h = mix(h, text.letters[k]);
        }
        chart.refresh();
        for (int k = 0; k <= text.count; k++) {
            h = mix(mix(mix(h, chart.goOn[k]), chart.itemCount[k]), wants.behind(k));
        }
        for (int i = 0; i < picker.count; i++) {
            h = mix(h, picker.steps[i]);
        }
        for (int what = 0; what <= 2; what++) {
            h = mix(h, proper(what));
        }
        return h;
    }

    private static long mix(long h, long v) {
        return 31 * h + v;
    }

    private boolean isName(int n) {
        return n >= 0 && n < grammar.names;
    }

    private boolean isRule(int r) {
        return r >= 0 && r < grammar.rules;
    }

    private boolean isPlace(int k) {
        return k >= 0 && k <= text.count;
    }

    /** Only the first letters are as they were, -1: the grammar is another one, too. */
    private void textChanged(int kept) {
        chart.fresh = false;
        wants.forgetBehind(kept);
        forest.forgetBehind(kept);
        picker.count = 0;
    }

    /** The signs as typed, and the token of them that is looked at. */
    private static final class Tape {
        // A token of one sign has that sign as its kind: the kinds here are below all signs.
        static final int NAME = 1, QUOTE = 2, CLASS = 3, CLOSE = 4, NO_TOKEN = 5;

        final int[] signs = new int[SIGNS];
        int count;
        int kind;
        int place;
        int behind;

        static boolean areSigns(int word) {
            for (int shift = 0; shift < 32; shift += 8) {
                int s = word >>> shift & 255;
                if (s != 0 && (s < 32 || s > 126)) {
                    return false;
                }
            }
            return true;
        }

        static int signsIn(int word) {
            int n = 0;
            for (int shift = 0; shift < 32; shift += 8) {
                if ((word >>> shift & 255) != 0) {
                    n++;
                }
            }
            return n;
        }

        void append(int word) {
            for (int shift = 0; shift < 32; shift += 8) {
                int s = word >>> shift & 255;
                if (s != 0 && count < SIGNS) {
                    signs[count] = s;
                    count++;
                }
            }
        }

        int signAt(int k) {
            return k >= 0 && k < count && k < SIGNS ? signs[k] : NONE;
        }

        void rewind() {
            behind = 0;
        }

        void advance() {
            place = behind;
            while (place < count && signAt(place) == ' ') {
                place++;
            }
            int s = signAt(place);
            behind = place + 1;
            if (s == NONE) {
                kind = CLOSE;
                behind = place;
            } else if (s >= 'A' && s <= 'Z') {
                lookAtName();
            } else if (s == '\'') {
                lookAtQuote();
            } else if (s == '[') {
                lookAtClass();
            } else {
                kind = isMark(s) ? s : NO_TOKEN;
            }
        }

        private void lookAtName() {
            while (behind < count && isFigure(signAt(behind))) {
                behind++;
            }
            kind = behind - place <= 3 ? NAME : NO_TOKEN;
        }

        private void lookAtQuote() {
            while (behind < count && isSmall(signAt(behind))) {
                behind++;
            }
            int inside = behind - place - 1;
            kind = signAt(behind) == '\'' && inside >= 1 && inside <= 3 ? QUOTE : NO_TOKEN;
            behind++;
        }

        private void lookAtClass() {
            int low = signAt(place + 1);
            int high = signAt(place + 3);
            boolean whole = isSmall(low) && signAt(place + 2) == '-' && isSmall(high) && low <= high
                && signAt(place + 4) == ']';
            kind = whole ? CLASS : NO_TOKEN;
            behind = place + 5;
        }

        private static boolean isFigure(int s) {
            return s >= '0' && s <= '9';
        }

        private static boolean isSmall(int s) {
            return s >= 'a' && s <= 'z';
        }

        private static boolean isMark(int s) {
            return s == ':' || s == ';' || s == '|' || s == '(' || s == ')' || s == '?' || s == '*' || s == '+';
        }

        /** The signs of the name that is looked at, in one number: seven bits each, the first lowest. */
        int key() {
            int key = 0;
            for (int k = behind - 1; k >= place; k--) {
                key = key * 128 + signAt(k);
            }
            return key;
        }

        /** How many parts a row gets by the name, quote or class that is looked at. */
        int width() {
            return kind == QUOTE ? behind - place - 2 : 1;
        }

        int setOfQuote(int k) {
            return 1 << signAt(place + 1 + k) - 'a';
        }

        int setOfClass() {
            int bits = 0;
            for (int s = signAt(place + 1); s <= signAt(place + 3); s++) {
                bits |= 1 << s - 'a';
            }
            return bits;
        }
    }

    /**
     * The rules as they are read, one behind the other as their rows end. A part is a set as its
     * bits, or -1 less a made name's number among the made ones, or -1 less a told name's key
     * (which is above all numbers).
     */
    private static final class Draft {
        private static final int OF_MADE = NAMES, OF_OPEN = 2 * NAMES;

        final int[] keys = new int[NAMES];
        int told;
        int made;
        int rules;
        private final int[] owner = new int[RULES];
        private final int[] size = new int[RULES];
        private final int[] parts = new int[RULES * PARTS];

        void clear() {
            told = 0;
            made = 0;
            rules = 0;
        }

        int allNames() {
            return told + made;
        }

        int find(int key) {
            for (int n = 0; n < told && n < NAMES; n++) {
                if (keys[n] == key) {
                    return n;
                }
            }
            return NONE;
        }

        void tell(int key) {
            if (told < NAMES) {
                keys[told] = key;
                told++;
            }
        }

        int makeName() {
            made++;
            return made - 1;
        }

        /** A row of the name that is told latest, or of the group that is open at a level. */
        void addRow(int level, int[] from, int start, int n) {
            add(level == 0 ? told - 1 : OF_OPEN + level, 0, from, start, n);
        }

        /** A row of a made name; ahead of it that name itself, if it goes on with more of the same. */
        void addMadeRow(int m, boolean more, int[] from, int start, int n) {
            add(OF_MADE + m, more ? -1 - m : 0, from, start, n);
        }

        private void add(int whose, int ahead, int[] from, int start, int n) {
            int lead = ahead == 0 ? 0 : 1;
            if (rules >= RULES || lead + n > PARTS || start < 0 || start + n > from.length) {
                return;
            }
            int at = rules * PARTS;
            if (lead == 1) {
                parts[at] = ahead;
            }
            for (int i = 0; i < n; i++) {
                parts[at + lead + i] = from[start + i];
            }
            owner[rules] = whose;
            size[rules] = lead + n;
            rules++;
        }

        /** The group at a level ends: its rows are those of a made name. */
        int close(int level) {
            int m = makeName();
            for (int r = 0; r < rules && r < RULES; r++) {
                if (owner[r] == OF_OPEN + level) {
                    owner[r] = OF_MADE + m;
                }
            }
            return m;
        }

        void fill(Grammar grammar) {
            grammar.clear();
            grammar.told = told;
            int names = Math.min(allNames(), NAMES);
            for (int n = 0; n < names; n++) {
                grammar.startName(n < told ? keys[n] : 0);
                int whose = n < told ? n : OF_MADE + n - told;
                for (int r = 0; r < rules && r < RULES; r++) {
                    if (owner[r] == whose) {
                        copyRule(grammar, r);
                    }
                }
            }
        }

        private void copyRule(Grammar grammar, int r) {
            grammar.startRule();
            for (int i = 0; i < size[r] && i < PARTS; i++) {
                int part = parts[r * PARTS + i];
                int x = -1 - part;
                int number = x < NAMES ? told + x : find(x);
                grammar.addPart(part > 0 ? part : -1 - number);
            }
        }
    }

    /** Reads the tape, token by token, into a draft; or tells the fault of the first token that has one. */
    private static final class Reader {
        private static final int AT_NAME = 0, AT_COLON = 1, IN_ROW = 2;

        final Draft draft = new Draft();
        int fault;
        int place = NONE;
        private final Tape tape;
        private int stage;
        private int level;
        /** How many parts of the row the atom has that stands right ahead; 0: none does. */
        private int atom;
        private final int[] rowSize = new int[NESTED + 1];
        private final int[] row = new int[(NESTED + 1) * PARTS];

        Reader(Tape tape) {
            this.tape = tape;
        }

        boolean run() {
            draft.clear();
            tape.rewind();
            stage = AT_NAME;
            fault = 0;
            place = NONE;
            for (int t = 0; t <= SIGNS; t++) {
                tape.advance();
                int found = faultHere();
                if (found != 0) {
                    fault = found;
                    place = tape.place;
                    return false;
                }
                if (tape.kind == Tape.CLOSE) {
                    break;
                }
                take();
            }
            return allNamesHaveRules();
        }

        private boolean allNamesHaveRules() {
            int ahead = ';';
            tape.rewind();
            for (int t = 0; t <= SIGNS; t++) {
                tape.advance();
                if (tape.kind == Tape.NAME && ahead != ';' && draft.find(tape.key()) == NONE) {
                    fault = 5;
                    place = tape.place;
                    return false;
                }
                if (tape.kind == Tape.CLOSE) {
                    return true;
                }
                ahead = tape.kind;
            }
            return true;
        }

        private int faultHere() {
            if (tape.kind == Tape.NO_TOKEN) {
                return 1;
            }
            if (!canStand()) {
                return 2;
            }
            if (isTooMuch()) {
                return 3;
            }
            return stage == AT_NAME && tape.kind == Tape.NAME && draft.find(tape.key()) != NONE ? 4 : 0;
        }

        private boolean canStand() {
            if (stage == AT_NAME) {
                return tape.kind == Tape.NAME || tape.kind == Tape.CLOSE && draft.told > 0;
            }
            if (stage == AT_COLON) {
                return tape.kind == ':';
            }
            switch (tape.kind) {
                case Tape.NAME: case Tape.QUOTE: case Tape.CLASS: case '(': case '|':
                    return true;
                case ';':
                    return level == 0;
                case ')':
                    return level > 0;
                case '?': case '*': case '+':
                    return atom > 0;
                default:
                    return false;
            }
        }

        private boolean isTooMuch() {
            switch (tape.kind) {
                case Tape.NAME: case Tape.QUOTE: case Tape.CLASS:
                    if (stage == AT_NAME) {
                        // A name told with rules ahead is no further one.
                        return draft.allNames() >= NAMES && draft.find(tape.key()) == NONE;
                    }
                    return rowSize[level] + tape.width() > PARTS;
                case '(':
                    return level >= NESTED;
                case '|': case ';':
                    return draft.rules >= RULES;
                case ')':
                    return draft.rules >= RULES || draft.allNames() >= NAMES
                        || level > 0 && rowSize[level - 1] >= PARTS;
                case '?': case '*': case '+':
                    return draft.rules + 2 > RULES || draft.allNames() >= NAMES;
                default:
                    return false;
            }
        }

        private void take() {
            switch (tape.kind) {
                case Tape.NAME: case Tape.QUOTE: case Tape.CLASS:
                    takeWord();
                    break;
                case ':':
                    stage = IN_ROW;
                    level = 0;
                    startRow();
                    break;
                case '(':
                    level = Math.min(level + 1, NESTED);
                    startRow();
                    break;
                case '|':
                    endRow();
                    break;
                case ';':
                    endRow();
                    stage = AT_NAME;
                    break;
                case ')':
                    endRow();
                    int group = draft.close(level);
                    level = Math.max(level - 1, 0);
                    push(-1 - group);
                    atom = 1;
                    break;
                default:
                    repeat(tape.kind);
            }
        }

        private void takeWord() {
            if (stage == AT_NAME) {
                draft.tell(tape.key());
                stage = AT_COLON;
                return;
            }
            if (tape.kind == Tape.NAME) {
                push(-1 - tape.key());
            } else if (tape.kind == Tape.CLASS) {
                push(tape.setOfClass());
            } else {
                for (int k = 0; k < tape.width(); k++) {
                    push(tape.setOfQuote(k));
                }
            }
            atom = tape.width();
        }

        private void startRow() {
            rowSize[level] = 0;
            atom = 0;
        }

        private void push(int part) {
            if (rowSize[level] < PARTS) {
                row[level * PARTS + rowSize[level]] = part;
                rowSize[level]++;
            }
        }

        private void endRow() {
            draft.addRow(level, row, level * PARTS, rowSize[level]);
            startRow();
        }

        /** The atom right ahead is left out or repeated: a made name takes its place in the row. */
        private void repeat(int sign) {
            int m = draft.makeName();
            int start = level * PARTS + rowSize[level] - atom;
            draft.addMadeRow(m, false, row, start, sign == '*' ? 0 : atom);
            draft.addMadeRow(m, sign != '?', row, start, sign == '?' ? 0 : atom);
            rowSize[level] -= atom;
            push(-1 - m);
            atom = 0;
        }
    }

    /** A grammar that was read: its names, their rules, the parts of these. */
    private static final class Grammar {
        int told;
        int names;
        int rules;
        final int[] firstRule = new int[NAMES];
        final int[] ruleCount = new int[NAMES];
        final int[] nameOfRule = new int[RULES];
        final int[] size = new int[RULES];
        private final int[] keys = new int[NAMES];
        private final int[] parts = new int[RULES * PARTS];

        void clear() {
            told = 0;
            names = 0;
            rules = 0;
        }

        void startName(int key) {
            if (names < NAMES) {
                keys[names] = key;
                firstRule[names] = rules;
                ruleCount[names] = 0;
                names++;
            }
        }

        void startRule() {
            if (rules < RULES && names > 0) {
                nameOfRule[rules] = names - 1;
                size[rules] = 0;
                ruleCount[names - 1]++;
                rules++;
            }
        }

        void addPart(int part) {
            int r = rules - 1;
            if (r >= 0 && size[r] < PARTS) {
                parts[r * PARTS + size[r]] = part;
                size[r]++;
            }
        }

        int partAt(int r, int i) {
            return r >= 0 && r < rules && i >= 0 && i < size[r] ? parts[r * PARTS + i] : 0;
        }

        /** The name that a part is; NONE: it is a set. */
        int nameOf(int part) {
            return part < 0 && part >= -names ? -1 - part : NONE;
        }

        int nameAt(int r, int i) {
            return nameOf(partAt(r, i));
        }

        int behindRules(int n) {
            return firstRule[n] + ruleCount[n];
        }

        int allParts() {
            int all = 0;
            for (int r = 0; r < rules; r++) {
                all += size[r];
            }
            return all;
        }

        int signOf(int n, int k) {
            int s = k < 3 ? keys[n] >> 7 * k & 127 : 0;
            return s == 0 ? NONE : s;
        }
    }

    /** What holds of the names and rules of a grammar; sets of names, of rules and of letters as bits. */
    private static final class Facts {
        private final Grammar grammar;
        int empty;
        int ending;
        int reached;
        int useful;
        int usefulRules;
        final int[] least = new int[NAMES];
        final int[] first = new int[NAMES];
        final int[] follow = new int[NAMES];
        /** Of a name those to which steps lead in each of which all other parts are empty names. */
        final int[] over = new int[NAMES];
        /** Of a rule the letters (and the end) for which the table has it. */
        private final int[] tabled = new int[RULES];

        Facts(Grammar grammar) {
            this.grammar = grammar;
        }

        // Each of these goes over the rules as often as there are names: what is found of a name
        // comes to another one over each name once, at most.
        void find() {
            findEmpty();
            findLeast();
            findUsefulRules();
            reached = spread((1 << RULES) - 1);
            useful = (ending & 1) == 0 ? 0 : spread(usefulRules);
            findOver();
            findFirst();
            findFollow();
            findTable();
        }

        boolean isUsefulRule(int r) {
            return (usefulRules >> r & 1) != 0;
        }

        private void findEmpty() {
            empty = 0;
            for (int round = 0; round < grammar.names; round++) {
                for (int r = 0; r < grammar.rules; r++) {
                    if (isEmptyRow(r, 0, NONE)) {
                        empty |= 1 << grammar.nameOfRule[r];
                    }
                }
            }
        }

        /** Whether all parts from one on, but for one that is passed by, are empty names. */
        private boolean isEmptyRow(int r, int from, int passed) {
            for (int d = from; d < grammar.size[r]; d++) {
                int n = grammar.nameAt(r, d);
                if (d != passed && (n == NONE || (empty >> n & 1) == 0)) {
                    return false;
                }
            }
            return true;
        }

        private void findLeast() {
            Arrays.fill(least, FAR);
            for (int round = 0; round < grammar.names; round++) {
                for (int r = 0; r < grammar.rules; r++) {
                    int n = grammar.nameOfRule[r];
                    least[n] = Math.min(least[n], leastOfRow(r, 0));
                }
            }
            ending = 0;
            for (int n = 0; n < grammar.names; n++) {
                if (least[n] < FAR) {
                    ending |= 1 << n;
                }
            }
        }

        /** The least number of letters that the parts from one on make, FAR: they make nothing. */
        int leastOfRow(int r, int from) {
            int all = 0;
            for (int d = from; d < grammar.size[r]; d++) {
                int n = grammar.nameAt(r, d);
                all += n == NONE ? 1 : least[n];
            }
            return Math.min(all, FAR);
        }

        private void findUsefulRules() {
            usefulRules = 0;
            for (int r = 0; r < grammar.rules; r++) {
                if (leastOfRow(r, 0) < FAR) {
                    usefulRules |= 1 << r;
                }
            }
        }

        /** The names in rows to which steps by some rules lead from name 0. */
        private int spread(int byRules) {
            int found = 1;
            for (int round = 0; round < grammar.names; round++) {
                for (int r = 0; r < grammar.rules; r++) {
                    if ((byRules >> r & 1) != 0 && (found >> grammar.nameOfRule[r] & 1) != 0) {
                        found |= namesIn(r);
                    }
                }
            }
            return found;
        }

        private int namesIn(int r) {
            int found = 0;
            for (int d = 0; d < grammar.size[r]; d++) {
                int n = grammar.nameAt(r, d);
                found |= n == NONE ? 0 : 1 << n;
            }
            return found;
        }

        private void findOver() {
            Arrays.fill(over, 0);
            for (int r = 0; r < grammar.rules; r++) {
                for (int d = 0; d < grammar.size[r]; d++) {
                    int n = grammar.nameAt(r, d);
                    if (n != NONE && isEmptyRow(r, 0, d)) {
                        over[grammar.nameOfRule[r]] |= 1 << n;
                    }
                }
            }
            closeOver(over, grammar.names);
        }

        /** Of names and those that each leads to: those that it leads to over others, too. */
        static void closeOver(int[] leads, int names) {
            for (int middle = 0; middle < names; middle++) {
                for (int n = 0; n < names; n++) {
                    if ((leads[n] >> middle & 1) != 0) {
                        leads[n] |= leads[middle];
                    }
                }
            }
        }

        private void findFirst() {
            Arrays.fill(first, 0);
            for (int round = 0; round < grammar.names; round++) {
                for (int r = 0; r < grammar.rules; r++) {
                    if (isUsefulRule(r)) {
                        first[grammar.nameOfRule[r]] |= firstOfRow(r, 0);
                    }
                }
            }
        }

        private int firstOfRow(int r, int from) {
            int found = 0;
            for (int d = from; d < grammar.size[r]; d++) {
                int n = grammar.nameAt(r, d);
                found |= n == NONE ? grammar.partAt(r, d) : first[n];
                if (n == NONE || (empty >> n & 1) == 0) {
                    break;
                }
            }
            return found;
        }

        private void findFollow() {
            Arrays.fill(follow, 0);
            follow[0] = (useful & 1) << THE_END;
            for (int round = 0; round < grammar.names; round++) {
                for (int r = 0; r < grammar.rules; r++) {
                    if (isUsefulRule(r) && (useful >> grammar.nameOfRule[r] & 1) != 0) {
                        followInRow(r);
                    }
                }
            }
        }

        private void followInRow(int r) {
            for (int d = 0; d < grammar.size[r]; d++) {
                int n = grammar.nameAt(r, d);
                if (n != NONE) {
                    follow[n] |= firstOfRow(r, d + 1);
                    if (isEmptyRow(r, d + 1, NONE)) {
                        follow[n] |= follow[grammar.nameOfRule[r]];
                    }
                }
            }
        }

        private void findTable() {
            for (int r = 0; r < grammar.rules; r++) {
                int n = grammar.nameOfRule[r];
                tabled[r] = 0;
                if (isUsefulRule(r) && (useful >> n & 1) != 0) {
                    tabled[r] = firstOfRow(r, 0) | (isEmptyRow(r, 0, NONE) ? follow[n] : 0);
                }
            }
        }

        int ruleFor(int n, int letter) {
            int found = NONE;
            for (int r = grammar.firstRule[n]; r < grammar.behindRules(n); r++) {
                if ((tabled[r] >> letter & 1) != 0) {
                    if (found != NONE) {
                        return SEVERAL;
                    }
                    found = r;
                }
            }
            return found;
        }

        int clashes() {
            int all = 0;
            for (int n = 0; n < grammar.names; n++) {
                int once = 0;
                int again = 0;
                for (int r = grammar.firstRule[n]; r < grammar.behindRules(n); r++) {
                    again |= once & tabled[r];
                    once |= tabled[r];
                }
                all += Integer.bitCount(again);
            }
            return all;
        }
    }

    /** The letters, and how they are made from a seed. */
    private static final class Text {
        private final Grammar grammar;
        private final Facts facts;
        final int[] letters = new int[LETTERS];
        int count;
        private final int[] trial = new int[LETTERS];
        /** The parts of the row that are no letters yet, the first one last. */
        private final int[] open = new int[1 + DRAWS * PARTS];
        private int top;
        private int trialCount;
        private int drawn;

        Text(Grammar grammar, Facts facts) {
            this.grammar = grammar;
            this.facts = facts;
        }

        boolean fits(int set, int k) {
            return k >= 0 && k < count && (set >> letters[k] & 1) != 0;
        }

        int letterAt(int k) {
            return k >= 0 && k < count ? letters[k] : NONE;
        }

        boolean compose(int seed) {
            if ((facts.ending & 1) == 0) {
                return false;
            }
            drawn = seed;
            trialCount = 0;
            open[0] = -1;
            top = 1;
            for (int draws = 0; top > 0; draws++) {
                if (draws == DRAWS) {
                    return false;
                }
                top--;
                int n = grammar.nameOf(open[top]);
                if (!(n != NONE ? putRule(n) : putLetter(open[top]))) {
                    return false;
                }
            }
            System.arraycopy(trial, 0, letters, 0, trialCount);
            count = trialCount;
            return true;
        }

        private int draw(int n) {
            drawn = (25173 * drawn + 13849) % SEEDS;
            return n > 0 ? drawn / 16 % n : 0;
        }

        private boolean putRule(int n) {
            int mine = (1 << grammar.behindRules(n)) - (1 << grammar.firstRule[n]);
            int choices = facts.usefulRules & mine;
            int r = bitAt(choices, draw(Integer.bitCount(choices)));
            if (r < 0 || r >= RULES || top + grammar.size[r] > open.length) {
                return false;
            }
            for (int d = grammar.size[r] - 1; d >= 0; d--) {
                open[top] = grammar.partAt(r, d);
                top++;
            }
            return true;
        }

        private boolean putLetter(int set) {
            int letter = bitAt(set, draw(Integer.bitCount(set)));
            if (letter == NONE || trialCount >= LETTERS) {
                return false;
            }
            trial[trialCount] = letter;
            trialCount++;
            return true;
        }

        /** Where the bit stands that has so many set ones below it. */
        private static int bitAt(int bits, int below) {
            int left = below;
            for (int at = 0; at < ALPHABET; at++) {
                if ((bits >> at & 1) != 0) {
                    if (left == 0) {
                        return at;
                    }
                    left--;
                }
            }
            return NONE;
        }
    }

    /** What makes which letters of the text, and what stands open at its places; places as bits. */
    private static final class Chart {
        private final Grammar grammar;
        private final Facts facts;
        private final Text text;
        boolean fresh;
        private final int[] ends = new int[NAMES * PLACES];
        /** At a place the names that steps from name 0 lead to, right behind sets for the letters ahead. */
        private final int[] awaited = new int[PLACES];
        private final int[] usefully = new int[PLACES];
        final int[] itemCount = new int[PLACES];
        final int[] goOn = new int[PLACES];

        Chart(Grammar grammar, Facts facts, Text text) {
            this.grammar = grammar;
            this.facts = facts;
            this.text = text;
        }

        boolean covers(int n, int i, int j) {
            return (ends[n * PLACES + i] >> j & 1) != 0;
        }

        boolean hasItem(int r, int d, int i, int k) {
            return (awaited[i] >> grammar.nameOfRule[r] & 1) != 0 && (endsOfRow(r, d, i) >> k & 1) != 0;
        }

        void refresh() {
            if (fresh) {
                return;
            }
            fresh = true;
            Arrays.fill(ends, 0);
            for (int i = text.count; i >= 0; i--) {
                findEnds(i);
            }
            Arrays.fill(itemCount, 0);
            Arrays.fill(goOn, 0);
            await(awaited, false);
            await(usefully, true);
            for (int k = 0; k <= text.count; k++) {
                goOn[k] |= (ends[0] >> k & 1) << THE_END;
            }
        }

        private void findEnds(int i) {
            boolean more = true;
            // Each round but the last finds a further place for a name.
            for (int round = 0; more && round <= NAMES * PLACES; round++) {
                more = false;
                for (int r = 0; r < grammar.rules; r++) {
                    int at = grammar.nameOfRule[r] * PLACES + i;
                    int found = ends[at] | endsOfRow(r, grammar.size[r], i);
                    more = more || found != ends[at];
                    ends[at] = found;
                }
            }
        }

        /** Up to where the first d parts of a rule make the letters from a place. */
        int endsOfRow(int r, int d, int i) {
            int places = 1 << i;
            for (int p = 0; p < d && places != 0; p++) {
                places = beyond(grammar.partAt(r, p), places);
            }
            return places;
        }

        /** Up to where a part makes the letters from any of some places. */
        int beyond(int part, int places) {
            int n = grammar.nameOf(part);
            int found = 0;
            for (int k = 0; k <= text.count; k++) {
                if ((places >> k & 1) != 0) {
                    if (n != NONE) {
                        found |= ends[n * PLACES + k];
                    } else if (text.fits(part, k)) {
                        found |= 1 << k + 1;
                    }
                }
            }
            return found;
        }

        /** Finds the names at each place, and counts the items of their rules; or takes the useful ones alone. */
        private void await(int[] names, boolean usefulOnes) {
            Arrays.fill(names, 0);
            names[0] = 1;
            for (int i = 0; i <= text.count; i++) {
                int done = 0;
                // Each round but the last goes on from a further name.
                for (int round = 0; round <= NAMES && names[i] != done; round++) {
                    int open = names[i] & ~done;
                    done |= open;
                    for (int r = 0; r < grammar.rules; r++) {
                        if ((open >> grammar.nameOfRule[r] & 1) == 0) {
                            continue;
                        }
                        if (!usefulOnes) {
                            goThrough(r, i, names);
                        } else if (facts.isUsefulRule(r)) {
                            lookAhead(r, i, names);
                        }
                    }
                }
            }
        }

        private void goThrough(int r, int i, int[] names) {
            int places = 1 << i;
            for (int d = 0; d <= grammar.size[r]; d++) {
                for (int k = i; k <= text.count; k++) {
                    itemCount[k] += places >> k & 1;
                }
                if (d < grammar.size[r]) {
                    places = enter(grammar.partAt(r, d), places, names);
                }
            }
        }

        private void lookAhead(int r, int i, int[] names) {
            int places = 1 << i;
            for (int d = 0; d < grammar.size[r]; d++) {
                int part = grammar.partAt(r, d);
                for (int k = i; k <= text.count && part > 0; k++) {
                    goOn[k] |= (places >> k & 1) == 0 ? 0 : part;
                }
                places = enter(part, places, names);
            }
        }

        /** A name that stands next is one of those at the places; the places behind the part. */
        private int enter(int part, int places, int[] names) {
            int n = grammar.nameOf(part);
            for (int k = 0; k <= text.count && n != NONE; k++) {
                names[k] |= (places >> k & 1) << n;
            }
            return beyond(part, places);
        }
    }

    /** The least that is wanted behind letters, and the least changes that put the text right. */
    private static final class Wants {
        private final Grammar grammar;
        private final Facts facts;
        private final Text text;
        private final Chart chart;
        /** Of which places what is wanted behind them is known, as bits. */
        private int known;
        private final int[] wanted = new int[PLACES];
        /** Of a name from a place on: how many letters are wanted, if it makes the rest of the letters and more. */
        private final int[] more = new int[NAMES * PLACES];
        /** Up to which place the changes are known. */
        private int ready = NONE;
        private final int[] cost = new int[NAMES * PLACES * PLACES];
        private final int[] best = new int[PLACES];

        Wants(Grammar grammar, Facts facts, Text text, Chart chart) {
            this.grammar = grammar;
            this.facts = facts;
            this.text = text;
            this.chart = chart;
        }

        void forgetBehind(int kept) {
            known &= (1 << kept + 1) - 1;
            ready = Math.min(ready, kept);
        }

        int behind(int k) {
            if ((known >> k & 1) == 0) {
                known |= 1 << k;
                wanted[k] = findWanted(k);
            }
            return wanted[k];
        }

        private int findWanted(int k) {
            Arrays.fill(more, FAR);
            for (int n = 0; n < grammar.names; n++) {
                more[n * PLACES + k] = facts.least[n];
            }
            for (int i = k - 1; i >= 0; i--) {
                for (int round = 0; round < grammar.names; round++) {
                    for (int r = 0; r < grammar.rules; r++) {
                        int at = grammar.nameOfRule[r] * PLACES + i;
                        more[at] = Math.min(more[at], wantedByRow(r, i, k));
                    }
                }
            }
            return more[0] < FAR ? more[0] : NONE;
        }

        /** One part reaches the end of the letters, or goes beyond it; those behind it are put whole. */
        private int wantedByRow(int r, int i, int k) {
            int least = FAR;
            int places = 1 << i;
            for (int d = 0; d < grammar.size[r] && places != 0; d++) {
                int n = grammar.nameAt(r, d);
                int rest = facts.leastOfRow(r, d + 1);
                for (int e = i; e < k && n != NONE; e++) {
                    if ((places >> e & 1) != 0) {
                        least = Math.min(least, more[n * PLACES + e] + rest);
                    }
                }
                places = chart.beyond(grammar.partAt(r, d), places);
                if ((places >> k & 1) != 0) {
                    least = Math.min(least, rest);
                }
            }
            return least;
        }

        int changes() {
            if ((facts.ending & 1) == 0) {
                return NONE;
            }
            for (int j = ready + 1; j <= text.count; j++) {
                findCosts(j);
                ready = j;
            }
            return cost[text.count];
        }

        private void findCosts(int j) {
            for (int n = 0; n < grammar.names; n++) {
                cost[costAt(n, j, j)] = facts.least[n];
            }
            for (int i = j - 1; i >= 0; i--) {
                for (int n = 0; n < grammar.names; n++) {
                    cost[costAt(n, i, j)] = FAR;
                }
                boolean found = true;
                for (int round = 0; found && round < grammar.names; round++) {
                    found = false;
                    for (int r = 0; r < grammar.rules; r++) {
                        int at = costAt(grammar.nameOfRule[r], i, j);
                        int now = facts.isUsefulRule(r) ? costOfRow(r, i, j) : FAR;
                        found = found || now < cost[at];
                        cost[at] = Math.min(cost[at], now);
                    }
                }
            }
        }

        private static int costAt(int n, int i, int j) {
            return (n * PLACES + i) * PLACES + j;
        }

        /** The least changes by which the letters from i up to j become what a rule makes. */
        private int costOfRow(int r, int i, int j) {
            if (grammar.size[r] == 0) {
                return j - i;
            }
            Arrays.fill(best, FAR);
            best[i] = 0;
            for (int d = 0; d < grammar.size[r]; d++) {
                int part = grammar.partAt(r, d);
                int from = d == grammar.size[r] - 1 ? j : i;
                // From the right: what stands on the left is still that of the parts ahead.
                for (int k = j; k >= from; k--) {
                    best[k] = costUpTo(part, i, k);
                }
            }
            return best[j];
        }

        private int costUpTo(int part, int i, int k) {
            int n = grammar.nameOf(part);
            int least = FAR;
            int fitting = 0;
            for (int e = k; e >= i; e--) {
                int length = k - e;
                fitting |= length > 0 && n == NONE && text.fits(part, e) ? 1 : 0;
                if (best[e] < least) {
                    int own = n != NONE ? cost[costAt(n, e, k)] : Math.max(length, 1) - fitting;
                    least = Math.min(least, best[e] + own);
                }
            }
            return least;
        }
    }

    /** Counts trees. In a tree no name is above itself over the same letters. */
    private static final class Forest {
        private static final int SETS = 1 << NAMES, ROW = (PARTS + 1) * PLACES;

        private final Grammar grammar;
        private final Facts facts;
        private final Text text;
        private final Chart chart;
        /** The trees of a name over letters, with nothing above it over the same ones; -1: not counted yet. */
        private final long[] plain = new long[NAMES * PLACES * PLACES];
        /** At each depth: of a row the ways of the parts from one on to make the letters from a place on. */
        private final long[] rest = new long[NAMES * ROW];
        /** At each depth: up to where the parts of a row ahead of one make the letters. */
        private final int[] starts = new int[NAMES * PARTS];
        /** The trees of a name with names above it over the same letters: over no letters, and over some. */
        private long[] under = new long[0];
        private int[] turnOf = new int[0];
        private int turn;
        private int emptyTurn;
        private int ready = NONE;

        Forest(Grammar grammar, Facts facts, Text text, Chart chart) {
            this.grammar = grammar;
            this.facts = facts;
            this.text = text;
            this.chart = chart;
        }

        void forgetBehind(int kept) {
            ready = Math.min(ready, kept);
        }

        long treesOf(int n, int i, int j) {
            for (int k = ready + 1; k <= j; k++) {
                for (int from = k; from >= 0; from--) {
                    countOver(from, k);
                }
                ready = k;
            }
            return plain[plainAt(n, i, j)];
        }

        private void countOver(int i, int j) {
            turn++;
            if (j == 0) {
                emptyTurn = turn;
            }
            for (int n = 0; n < grammar.names; n++) {
                plain[plainAt(n, i, j)] = i == j && j > 0 ? plain[plainAt(n, 0, 0)] : NONE;
            }
            for (int n = 0; n < grammar.names; n++) {
                plain[plainAt(n, i, j)] = countOf(n, i, j, 0, 0);
            }
        }

        /** From here on trees are asked for over other letters than before. */
        void takeTurn() {
            turn++;
        }

        private static int plainAt(int n, int i, int j) {
            return (n * PLACES + i) * PLACES + j;
        }

        private long countOf(int n, int i, int j, int above, int depth) {
            if ((above >> n & 1) != 0 || depth >= NAMES || !chart.covers(n, i, j)) {
                return 0;
            }
            // Names that can not be below it over the same letters make no difference.
            int hindering = above & facts.over[n];
            long count = recall(n, i, j, hindering);
            if (count >= 0) {
                return count;
            }
            count = 0;
            for (int r = grammar.firstRule[n]; r < grammar.behindRules(n); r++) {
                count = plus(count, countByRule(r, i, j, hindering | 1 << n, depth));
            }
            keep(n, i, j, hindering, count);
            return count;
        }

        private long recall(int n, int i, int j, int hindering) {
            if (hindering == 0) {
                return plain[plainAt(n, i, j)];
            }
            int at = underAt(n, i, j, hindering);
            return at < turnOf.length && turnOf[at] == (i == j ? emptyTurn : turn) ? under[at] : NONE;
        }

        private void keep(int n, int i, int j, int hindering, long count) {
            if (hindering == 0) {
                plain[plainAt(n, i, j)] = count;
                return;
            }
            if (under.length == 0) {
                under = new long[2 * NAMES * SETS];
                turnOf = new int[2 * NAMES * SETS];
            }
            int at = underAt(n, i, j, hindering);
            under[at] = count;
            turnOf[at] = i == j ? emptyTurn : turn;
        }

        private static int underAt(int n, int i, int j, int hindering) {
            return ((i == j ? 0 : NAMES) + n) * SETS + hindering;
        }

        /** The trees by a rule, its name among those above; leaves behind what restAt() tells. */
        private long countByRule(int r, int i, int j, int above, int depth) {
            int base = depth * ROW;
            int size = grammar.size[r];
            int places = 1 << i;
            for (int d = 0; d < size; d++) {
                starts[depth * PARTS + d] = places;
                places = chart.beyond(grammar.partAt(r, d), places);
            }
            for (int k = i; k <= j; k++) {
                rest[base + size * PLACES + k] = k == j ? 1 : 0;
            }
            for (int d = size - 1; d >= 0; d--) {
                for (int k = i; k <= j; k++) {
                    long ways = 0;
                    boolean starting = (starts[depth * PARTS + d] >> k & 1) != 0;
                    for (int e = k; e <= j && starting; e++) {
                        long behind = rest[base + (d + 1) * PLACES + e];
                        if (behind > 0) {
                            long own = countOfPart(grammar.partAt(r, d), k, e, i, j, above, depth);
                            ways = plus(ways, times(own, behind));
                        }
                    }
                    rest[base + d * PLACES + k] = ways;
                }
            }
            return rest[base + i];
        }

        /** Of the rule counted latest at depth 0: the ways of its parts from d on from a place on. */
        long restAt(int d, int k) {
            return rest[d * PLACES + k];
        }

        /** The ways of a part of a row over the letters from i up to j to make those from k up to e. */
        private long countOfPart(int part, int k, int e, int i, int j, int above, int depth) {
            int n = grammar.nameOf(part);
            if (n == NONE) {
                return e == k + 1 && text.fits(part, k) ? 1 : 0;
            }
            return k == i && e == j ? countOf(n, i, j, above, depth + 1) : plain[plainAt(n, k, e)];
        }

        private static long plus(long a, long b) {
            return Math.min(a + b, MANY);
        }

        static long times(long a, long b) {
            if (a == 0 || b == 0) {
                return 0;
            }
            return a > MANY / b ? MANY : Math.min(a * b, MANY);
        }
    }

    /** The tree that is picked, and how one is. */
    private static final class Picker {
        // No way down a tree has more than 8 names over each of 9 stretches of letters within one
        // another, and each of them leaves at most 3 parts open.
        private static final int OPEN = 1 + NAMES * PLACES * PARTS;

        private final Grammar grammar;
        private final Text text;
        private final Forest forest;
        final int[] steps = new int[STEPS];
        int count;
        int deepest;
        private final int[] trial = new int[STEPS];
        private int depth;
        /** What is still to be told, the next one last: a name, or -1 less a letter; of a name the rest. */
        private final int[] node = new int[OPEN];
        private final int[] from = new int[OPEN];
        private final int[] upTo = new int[OPEN];
        private final int[] above = new int[OPEN];
        private final int[] level = new int[OPEN];
        private final long[] number = new long[OPEN];
        private int top;
        private final int[] cut = new int[PARTS];
        private final long[] share = new long[PARTS];

        Picker(Grammar grammar, Text text, Forest forest) {
            this.grammar = grammar;
            this.text = text;
            this.forest = forest;
        }

        /** Tree k of the text, which has as many, is picked. */
        int choose(long k) {
            depth = 0;
            top = 0;
            push(0, 0, text.count, 0, 1, k);
            int used = 0;
            for (; top > 0; used++) {
                if (used == STEPS) {
                    return FULL;
                }
                top--;
                if (node[top] < 0) {
                    trial[used] = node[top];
                    continue;
                }
                int r = ruleOf(node[top], top);
                if (r == NONE) {
                    return NONE;
                }
                trial[used] = r;
                depth = Math.max(depth, level[top]);
                shareOut(r, top);
                pushParts(r, top);
            }
            System.arraycopy(trial, 0, steps, 0, used);
            count = used;
            deepest = depth;
            return count;
        }

        private void push(int what, int i, int j, int names, int high, long k) {
            if (top < OPEN) {
                node[top] = what;
                from[top] = i;
                upTo[top] = j;
                above[top] = names;
                level[top] = high;
                number[top] = k;
                top++;
            }
        }

        /** The rule of a name that is to be told; its number is that among the trees by this rule, then. */
        private int ruleOf(int n, int at) {
            int within = above[at] | 1 << n;
            if (from[at] < upTo[at] && above[at] == 0) {
                forest.takeTurn();
            }
            for (int r = grammar.firstRule[n]; r < grammar.behindRules(n); r++) {
                long ways = forest.countByRule(r, from[at], upTo[at], within, 0);
                if (number[at] < ways) {
                    return r;
                }
                number[at] -= ways;
            }
            return NONE;
        }

        /** Where each part of the rule ends, and which of the part's own trees it has. */
        private void shareOut(int r, int at) {
            int i = from[at];
            int j = upTo[at];
            int within = above[at] | 1 << node[at];
            int start = i;
            long left = number[at];
            for (int d = 0; d < grammar.size[r]; d++) {
                boolean found = false;
                for (int e = start; e <= j && !found; e++) {
                    long behind = forest.restAt(d + 1, e);
                    if (behind > 0) {
                        long own = forest.countOfPart(grammar.partAt(r, d), start, e, i, j, within, 0);
                        long ways = Forest.times(own, behind);
                        found = left < ways;
                        cut[d] = e;
                        share[d] = left / behind;
                        left = found ? left % behind : left - ways;
                    }
                }
                start = cut[d];
            }
        }

        /** The parts of the rule are to be told next, in the place of its name. */
        private void pushParts(int r, int at) {
            int i = from[at];
            int j = upTo[at];
            int within = above[at] | 1 << node[at];
            int high = level[at] + 1;
            for (int d = grammar.size[r] - 1; d >= 0; d--) {
                int start = d == 0 ? i : cut[d - 1];
                boolean whole = start == i && cut[d] == j;
                int n = grammar.nameAt(r, d);
                push(n != NONE ? n : -1 - text.letterAt(start), start, cut[d], whole ? within : 0, high, share[d]);
            }
        }
    }

    /** The grammar without empty rules and units: its rows, and of each the names that have it. */
    private static final class Proper {
        private static final int ROWS = RULES * 16, DIGIT = 128;

        private final Grammar grammar;
        private final Facts facts;
        boolean found;
        int pairs;
        int owning;
        int parts;
        private final int[] sets = new int[RULES * PARTS];
        private int setCount;
        /** A row as a number of digits: a name's number and 1, or a set's number and 9. */
        private final int[] rows = new int[ROWS];
        private final int[] owners = new int[ROWS];
        private int rowCount;
        private final int[] units = new int[NAMES];

        Proper(Grammar grammar, Facts facts) {
            this.grammar = grammar;
            this.facts = facts;
        }

        void find() {
            if (found) {
                return;
            }
            found = true;
            setCount = 0;
            rowCount = 0;
            Arrays.fill(units, 0);
            for (int r = 0; r < grammar.rules; r++) {
                if (facts.isUsefulRule(r) && (facts.useful >> grammar.nameOfRule[r] & 1) != 0) {
                    addRows(r);
                }
            }
            shareRows();
            countUseful();
        }

        /** All rows of a rule that are left without some of its empty names. */
        private void addRows(int r) {
            for (int without = 0; without < 1 << grammar.size[r]; without++) {
                int row = 0;
                boolean may = true;
                for (int d = 0; d < grammar.size[r]; d++) {
                    if ((without >> d & 1) == 0) {
                        row = row * DIGIT + digitOf(grammar.partAt(r, d));
                    } else {
                        int n = grammar.nameAt(r, d);
                        may = may && n != NONE && (facts.empty >> n & 1) != 0;
                    }
                }
                if (may && row >= 1 && row <= NAMES) {
                    units[grammar.nameOfRule[r]] |= 1 << row - 1;
                } else if (may && row > 0) {
                    addRow(row, grammar.nameOfRule[r]);
                }
            }
        }

        private int digitOf(int part) {
            if (part < 0) {
                return -part;
            }
            for (int s = 0; s < setCount && s < sets.length; s++) {
                if (sets[s] == part) {
                    return NAMES + 1 + s;
                }
            }
            if (setCount < sets.length) {
                sets[setCount] = part;
                setCount++;
            }
            return NAMES + setCount;
        }

        private void addRow(int row, int n) {
            for (int at = 0; at < rowCount; at++) {
                if (rows[at] == row) {
                    owners[at] |= 1 << n;
                    return;
                }
            }
            if (rowCount < ROWS) {
                rows[rowCount] = row;
                owners[rowCount] = 1 << n;
                rowCount++;
            }
        }

        /** Where units lead from one name to another, the one has the rows of the other. */
        private void shareRows() {
            Facts.closeOver(units, grammar.names);
            for (int at = 0; at < rowCount; at++) {
                int own = owners[at];
                for (int n = 0; n < grammar.names; n++) {
                    if ((units[n] & own) != 0) {
                        owners[at] |= 1 << n;
                    }
                }
            }
        }

        private void countUseful() {
            int ending = 0;
            for (int round = 0; round < grammar.names; round++) {
                for (int at = 0; at < rowCount; at++) {
                    ending |= (namesIn(rows[at]) & ~ending) == 0 ? owners[at] : 0;
                }
            }
            int useful = ending & 1;
            for (int round = 0; round < grammar.names; round++) {
                for (int at = 0; at < rowCount; at++) {
                    int names = namesIn(rows[at]);
                    useful |= (names & ~ending) == 0 && (owners[at] & useful) != 0 ? names : 0;
                }
            }
            pairs = 0;
            owning = 0;
            parts = 0;
            for (int at = 0; at < rowCount; at++) {
                int whose = (namesIn(rows[at]) & ~ending) == 0 ? owners[at] & useful : 0;
                pairs += Integer.bitCount(whose);
                owning |= whose;
                parts += Integer.bitCount(whose) * lengthOf(rows[at]);
            }
        }

        private static int namesIn(int row) {
            int names = 0;
            for (int left = row; left > 0; left /= DIGIT) {
                int digit = left % DIGIT;
                names |= digit >= 1 && digit <= NAMES ? 1 << digit - 1 : 0;
            }
            return names;
        }

        private static int lengthOf(int row) {
            int length = 0;
            for (int left = row; left > 0; left /= DIGIT) {
                length++;
            }
            return length;
        }
    }
}

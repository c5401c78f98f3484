import java.math.BigInteger;
import java.util.ArrayDeque;
import java.util.ArrayList;
import java.util.Arrays;
import java.util.Collections;
import java.util.HashMap;
import java.util.HashSet;
import java.util.LinkedHashSet;
import java.util.List;
import java.util.Map;
import java.util.Set;
import java.util.regex.Matcher;
import java.util.regex.Pattern;

/**
 * What the document says, worked out the long way: a reader that calls itself, texts and trees
 * written out in lists, sets of letters by whether a grammar and an automaton have a text in
 * common. It shares no way of working with the program.
 */
final class Oracle {
    /** A part is a set as its bits, or -1 less a name's number. */
    record Rule(int name, List<Integer> parts) { }

    private static final class Fault extends RuntimeException {
        private static final long serialVersionUID = 1L;
        final int kind;
        final int place;

        Fault(int kind, int place) {
            super(null, null, false, false);
            this.kind = kind;
            this.place = place;
        }
    }

    private record Token(char kind, String signs, int place) { }

    int fault;
    int place = -1;
    int told;
    int names;
    final List<String> nameSigns = new ArrayList<>();
    final List<Rule> rules = new ArrayList<>();

    // ---- reading

    private static final Pattern TOKEN =
        Pattern.compile(" *(?:([A-Z][0-9]{0,2}(?![0-9]))|('[a-z]{1,3}')|(\\[[a-z]-[a-z]\\])|([:;|()?*+]))");

    private final List<Token> tokens = new ArrayList<>();
    private int at;
    private int ruleCount;
    private int madeCount;
    private final Map<Object, List<List<Object>>> draft = new HashMap<>();

    Oracle(String tape) {
        try {
            cutUp(tape);
            grammar();
            number();
        } catch (Fault found) {
            fault = found.kind;
            place = found.place;
        }
    }

    private void cutUp(String tape) {
        Matcher m = TOKEN.matcher(tape);
        int from = 0;
        while (m.find(from) && m.start() == from) {
            int g = 1;
            while (m.group(g) == null) {
                g++;
            }
            String signs = m.group(g);
            char kind = "NQC.".charAt(g - 1);
            if (kind == 'C' && signs.charAt(1) > signs.charAt(3)) {
                break;
            }
            tokens.add(new Token(kind == '.' ? signs.charAt(0) : kind, signs, m.start(g)));
            from = m.end();
            if (from == tape.length()) {
                break;
            }
        }
        while (from < tape.length() && tape.charAt(from) == ' ') {
            from++;
        }
        tokens.add(new Token(from == tape.length() ? '$' : '!', "", from));
    }

    private Token look() {
        Token t = tokens.get(at);
        if (t.kind == '!') {
            throw new Fault(1, t.place);
        }
        return t;
    }

    private Token need(String kinds) {
        Token t = look();
        if (kinds.indexOf(t.kind) < 0) {
            throw new Fault(2, t.place);
        }
        return t;
    }

    private void limit(Token t, int n, int most) {
        if (n > most) {
            throw new Fault(3, t.place);
        }
    }

    private void grammar() {
        need("N");
        while (need(at == 0 ? "N" : "N$").kind == 'N') {
            Token t = look();
            boolean again = nameSigns.contains(t.signs);
            limit(t, nameSigns.size() + madeCount + (again ? 0 : 1), 8);
            if (again) {
                throw new Fault(4, t.place);
            }
            nameSigns.add(t.signs);
            draft.put(t.signs, new ArrayList<>());
            at++;
            need(":");
            at++;
            choices(draft.get(t.signs), 0, null);
            at++;
        }
        for (int k = 1; k < tokens.size(); k++) {
            Token t = tokens.get(k);
            if (t.kind == 'N' && tokens.get(k - 1).kind != ';' && !nameSigns.contains(t.signs)) {
                throw new Fault(5, t.place);
            }
        }
    }

    /** Up to the token that ends them, which is looked at, not passed. */
    private void choices(List<List<Object>> rows, int depth, List<Object> outer) {
        while (true) {
            List<Object> row = new ArrayList<>();
            parts(row, depth);
            Token t = look();
            ruleCount++;
            limit(t, ruleCount, 20);
            rows.add(row);
            if (t.kind != '|') {
                if (t.kind == ')') {
                    limit(t, nameSigns.size() + madeCount + 1, 8);
                    limit(t, outer.size() + 1, 4);
                }
                return;
            }
            at++;
        }
    }

    private void parts(List<Object> row, int depth) {
        while (true) {
            Token t = need("NQC(|" + (depth == 0 ? ";" : ")"));
            List<Object> atom = new ArrayList<>();
            switch (t.kind) {
                case 'N': atom.add(t.signs); break;
                case 'Q': t.signs.chars().filter(c -> c != '\'').forEach(c -> atom.add(1 << c - 'a')); break;
                case 'C': atom.add((2 << t.signs.charAt(3) - 'a') - (1 << t.signs.charAt(1) - 'a')); break;
                case '(':
                    limit(t, depth + 1, 3);
                    at++;
                    List<List<Object>> rows = new ArrayList<>();
                    choices(rows, depth + 1, row);
                    atom.add(makeName(rows));
                    break;
                default: return;
            }
            limit(t, row.size() + atom.size(), 4);
            at++;
            row.addAll(repeated(atom));
        }
    }

    private Object makeName(List<List<Object>> rows) {
        Object made = List.of("made", madeCount);
        madeCount++;
        draft.put(made, rows);
        return made;
    }

    private List<Object> repeated(List<Object> atom) {
        Token t = look();
        if ("?*+".indexOf(t.kind) < 0) {
            return atom;
        }
        limit(t, nameSigns.size() + madeCount + 1, 8);
        ruleCount += 2;
        limit(t, ruleCount, 20);
        at++;
        List<List<Object>> rows = new ArrayList<>();
        Object made = makeName(rows);
        List<Object> longer = new ArrayList<>(List.of(made));
        longer.addAll(atom);
        rows.add(t.kind == '*' ? List.of() : atom);
        rows.add(t.kind == '?' ? List.of() : longer);
        // A suffix can not stand behind another one: what follows is looked at as a part again.
        return new ArrayList<>(List.of(made));
    }

    private void number() {
        List<Object> order = new ArrayList<>(nameSigns);
        told = order.size();
        for (int m = 0; m < madeCount; m++) {
            order.add(List.of("made", m));
        }
        names = order.size();
        for (int n = 0; n < names; n++) {
            for (List<Object> row : draft.get(order.get(n))) {
                List<Integer> parts = new ArrayList<>();
                for (Object part : row) {
                    parts.add(part instanceof Integer set ? set : -1 - order.indexOf(part));
                }
                rules.add(new Rule(n, parts));
            }
        }
    }

    // ---- names

    int nameValue(int n, int what) {
        switch (what) {
            case 0: return firstRule(n);
            case 1: return (int) rules.stream().filter(r -> r.name == n).count();
            case 2: return least()[n] == 0 ? 1 : 0;
            case 3: return least()[n] >= 0 ? 1 : 0;
            case 4: return reach(rules).contains(n) ? 1 : 0;
            case 5: return usefulNames().contains(n) ? 1 : 0;
            case 6: return least()[n];
            default: return stands(n) ? 1 : 0;
        }
    }

    private int firstRule(int n) {
        int r = 0;
        while (rules.get(r).name != n) {
            r++;
        }
        return r;
    }

    private int[] leastKnown;

    /** The cheapest name is settled first, then the next one, as among roads. */
    int[] least() {
        if (leastKnown != null) {
            return leastKnown;
        }
        int[] settled = new int[names];
        Arrays.fill(settled, -1);
        while (true) {
            int bestName = -1;
            int bestSum = 0;
            for (Rule rule : rules) {
                int sum = 0;
                boolean all = settled[rule.name] < 0;
                for (int part : rule.parts) {
                    all &= part > 0 || settled[-1 - part] >= 0;
                    sum += part > 0 ? 1 : settled[-1 - part];
                }
                if (all && (bestName < 0 || sum < bestSum)) {
                    bestName = rule.name;
                    bestSum = sum;
                }
            }
            if (bestName < 0) {
                leastKnown = settled;
                return settled;
            }
            settled[bestName] = bestSum;
        }
    }

    private static Set<Integer> reach(List<Rule> by) {
        Set<Integer> found = new HashSet<>(List.of(0));
        ArrayDeque<Integer> open = new ArrayDeque<>(found);
        while (!open.isEmpty()) {
            int n = open.remove();
            for (Rule rule : by) {
                for (int part : rule.parts) {
                    if (rule.name == n && part < 0 && found.add(-1 - part)) {
                        open.add(-1 - part);
                    }
                }
            }
        }
        return found;
    }

    boolean isUseful(Rule rule) {
        return rule.parts.stream().allMatch(p -> p > 0 || least()[-1 - p] >= 0);
    }

    List<Rule> usefulRules() {
        return rules.stream().filter(this::isUseful).toList();
    }

    Set<Integer> usefulNames() {
        return least()[0] < 0 ? Set.of() : reach(usefulRules());
    }

    private boolean isEmptyName(int part) {
        return part < 0 && least()[-1 - part] == 0;
    }

    private boolean stands(int n) {
        Set<Integer> found = new HashSet<>();
        ArrayDeque<Integer> open = new ArrayDeque<>(List.of(n));
        while (!open.isEmpty()) {
            int m = open.remove();
            for (Rule rule : rules) {
                for (int d = 0; rule.name == m && d < rule.parts.size(); d++) {
                    List<Integer> others = new ArrayList<>(rule.parts);
                    int on = others.remove(d);
                    if (on < 0 && others.stream().allMatch(this::isEmptyName) && found.add(-1 - on)) {
                        open.add(-1 - on);
                    }
                }
            }
        }
        return found.contains(n);
    }

    // ---- grammars and automata: have they a text in common?

    private static final int MARK = 26;

    /** An automaton: moves[s][c] is the state behind c, or -1; state 0 begins, the last one ends. */
    private static boolean meets(List<Rule> by, int nameCount, int start, int[][] moves) {
        int states = moves.length;
        boolean[][][] made = new boolean[nameCount][states][states];
        boolean more = true;
        while (more) {
            more = false;
            for (Rule rule : by) {
                for (int s = 0; s < states; s++) {
                    for (int e : run(rule.parts, 0, s, moves, made)) {
                        more |= !made[rule.name][s][e];
                        made[rule.name][s][e] = true;
                    }
                }
            }
        }
        return made[start][0][states - 1];
    }

    private static Set<Integer> run(List<Integer> parts, int d, int s, int[][] moves, boolean[][][] made) {
        if (d == parts.size()) {
            return Set.of(s);
        }
        Set<Integer> found = new HashSet<>();
        int part = parts.get(d);
        for (int e = 0; e < moves.length; e++) {
            boolean leads = false;
            if (part < 0) {
                leads = made[-1 - part][s][e];
            } else {
                for (int c = 0; c <= MARK; c++) {
                    leads |= (part >> c & 1) != 0 && moves[s][c] == e;
                }
            }
            if (leads) {
                found.addAll(run(parts, d + 1, e, moves, made));
            }
        }
        return found;
    }

    /** Texts that begin with some letters, then one more, then anything. */
    private static int[][] beginning(String letters, int c) {
        int[][] moves = new int[letters.length() + 2][27];
        for (int s = 0; s < moves.length; s++) {
            Arrays.fill(moves[s], s == moves.length - 1 ? s : -1);
            if (s < letters.length()) {
                moves[s][letters.charAt(s) - 'a'] = s + 1;
            }
        }
        moves[letters.length()][c] = letters.length() + 1;
        return moves;
    }

    int first(int n) {
        int bits = 0;
        for (int c = 0; c < 26; c++) {
            bits |= meets(rules, names, n, beginning("", c)) ? 1 << c : 0;
        }
        return bits;
    }

    private int firstOfRule(Rule rule) {
        List<Rule> with = new ArrayList<>(rules);
        with.add(new Rule(names, rule.parts));
        int bits = 0;
        for (int c = 0; c < 26; c++) {
            bits |= meets(with, names + 1, names, beginning("", c)) ? 1 << c : 0;
        }
        return bits;
    }

    /**
     * Beside each name A stands a name A' for its rows in which one n is not gone on with but
     * marked: the letters right behind the mark are those of FOLLOW.
     */
    int follow(int n) {
        if (!usefulNames().contains(n)) {
            return 0;
        }
        List<Rule> with = new ArrayList<>(usefulRules());
        with.add(new Rule(names + n, List.of(1 << MARK)));
        for (Rule rule : usefulRules()) {
            for (int d = 0; d < rule.parts.size(); d++) {
                if (rule.parts.get(d) < 0) {
                    List<Integer> marked = new ArrayList<>(rule.parts);
                    marked.set(d, rule.parts.get(d) - names);
                    with.add(new Rule(names + rule.name, marked));
                }
            }
        }
        int bits = 0;
        for (int c = 0; c <= 26; c++) {
            bits |= meets(with, 2 * names, names, behindMark(c)) ? 1 << c : 0;
        }
        return bits;
    }

    /** State 0: ahead of the mark, 1: right behind it, the last one: all seen. */
    private static int[][] behindMark(int c) {
        int[][] moves = new int[c == 26 ? 2 : 3][27];
        for (int[] row : moves) {
            Arrays.fill(row, -1);
        }
        Arrays.fill(moves[0], 0, 26, 0);
        moves[0][MARK] = 1;
        if (c < 26) {
            moves[1][c] = 2;
            Arrays.fill(moves[2], 0, 26, 2);
        }
        return moves;
    }

    /** The rules that the table has for a name and a letter. */
    List<List<Integer>> table(int n) {
        List<List<Integer>> found = new ArrayList<>();
        int behind = follow(n);
        for (int c = 0; c <= 26; c++) {
            found.add(new ArrayList<>());
        }
        for (int r = 0; r < rules.size() && usefulNames().contains(n); r++) {
            Rule rule = rules.get(r);
            if (rule.name == n && isUseful(rule)) {
                int bits = firstOfRule(rule) | (rule.parts.stream().allMatch(this::isEmptyName) ? behind : 0);
                for (int c = 0; c <= 26; c++) {
                    if ((bits >> c & 1) != 0) {
                        found.get(c).add(r);
                    }
                }
            }
        }
        return found;
    }

    int next(String letters) {
        int bits = 0;
        for (int c = 0; c < 26; c++) {
            bits |= meets(rules, names, 0, beginning(letters, c)) ? 1 << c : 0;
        }
        return bits | (makes(0, letters) ? 1 << 26 : 0);
    }

    // ---- texts

    private final Map<String, Boolean> madeKnown = new HashMap<>();

    boolean makes(int n, String letters) {
        return madeKnown.computeIfAbsent(n + letters, key -> {
            int[][] moves = new int[letters.length() + 1][27];
            for (int s = 0; s < moves.length; s++) {
                Arrays.fill(moves[s], -1);
                if (s < letters.length()) {
                    moves[s][letters.charAt(s) - 'a'] = s + 1;
                }
            }
            return meets(rules, names, n, moves);
        });
    }

    private boolean rowMakes(List<Integer> parts, String letters) {
        if (parts.isEmpty()) {
            return letters.isEmpty();
        }
        for (int cut = 0; cut <= letters.length(); cut++) {
            if (partMakes(parts.get(0), letters.substring(0, cut))
                && rowMakes(parts.subList(1, parts.size()), letters.substring(cut))) {
                return true;
            }
        }
        return false;
    }

    private boolean partMakes(int part, String letters) {
        return part < 0 ? makes(-1 - part, letters)
            : letters.length() == 1 && (part >> letters.charAt(0) - 'a' & 1) != 0;
    }

    /** Items at the end of some letters, each as rule, parts, place. */
    Set<List<Integer>> items(String letters) {
        Set<List<Integer>> seen = new LinkedHashSet<>();
        ArrayDeque<List<Integer>> open = new ArrayDeque<>(List.of(List.of(0, 0)));
        Set<List<Integer>> awaited = new HashSet<>(open);
        while (!open.isEmpty()) {
            List<Integer> name = open.remove();
            int i = name.get(1);
            for (int r = 0; r < rules.size(); r++) {
                Rule rule = rules.get(r);
                for (int d = 0; rule.name == name.get(0) && d <= rule.parts.size(); d++) {
                    for (int k = i; k <= letters.length(); k++) {
                        if (rowMakes(rule.parts.subList(0, d), letters.substring(i, k))) {
                            if (k == letters.length()) {
                                seen.add(List.of(r, d, i));
                            }
                            if (d < rule.parts.size() && rule.parts.get(d) < 0) {
                                List<Integer> further = List.of(-1 - rule.parts.get(d), k);
                                if (awaited.add(further)) {
                                    open.add(further);
                                }
                            }
                        }
                    }
                }
            }
        }
        return seen;
    }

    /** All texts of a name of so many letters at most, of those that are asked about. */
    Set<String> texts(int n, int most, String alphabet) {
        List<Set<String>> all = new ArrayList<>();
        for (int m = 0; m < names; m++) {
            all.add(new HashSet<>());
        }
        boolean more = true;
        while (more) {
            more = false;
            for (Rule rule : rules) {
                Set<String> rows = new HashSet<>(List.of(""));
                for (int part : rule.parts) {
                    Set<String> longer = new HashSet<>();
                    for (String row : rows) {
                        for (String tail : part < 0 ? all.get(-1 - part) : lettersOf(part, alphabet)) {
                            if (row.length() + tail.length() <= most) {
                                longer.add(row + tail);
                            }
                        }
                    }
                    rows = longer;
                }
                more |= all.get(rule.name).addAll(rows);
            }
        }
        return all.get(n);
    }

    private static Set<String> lettersOf(int set, String alphabet) {
        Set<String> found = new HashSet<>();
        for (char c : alphabet.toCharArray()) {
            if ((set >> c - 'a' & 1) != 0) {
                found.add(String.valueOf(c));
            }
        }
        return found;
    }

    static int distance(String a, String b) {
        int[][] d = new int[a.length() + 1][b.length() + 1];
        for (int i = 0; i <= a.length(); i++) {
            for (int j = 0; j <= b.length(); j++) {
                int best = i == 0 ? j : j == 0 ? i : d[i - 1][j - 1] + (a.charAt(i - 1) == b.charAt(j - 1) ? 0 : 1);
                best = i > 0 ? Math.min(best, d[i - 1][j] + 1) : best;
                d[i][j] = j > 0 ? Math.min(best, d[i][j - 1] + 1) : best;
            }
        }
        return d[a.length()][b.length()];
    }

    /** The text that a seed makes, or null. */
    String made(int seed) {
        if (least()[0] < 0) {
            return null;
        }
        List<Integer> row = new ArrayList<>(List.of(-1));
        StringBuilder letters = new StringBuilder();
        int x = seed;
        int draws = 0;
        while (!row.isEmpty()) {
            draws++;
            if (draws > 60) {
                return null;
            }
            x = (25173 * x + 13849) % 65536;
            int part = row.remove(0);
            if (part < 0) {
                List<Rule> choice = usefulRules().stream().filter(r -> r.name == -1 - part).toList();
                row.addAll(0, choice.get(x / 16 % choice.size()).parts);
            } else {
                List<String> choice = new ArrayList<>(lettersOf(part, "abcdefghijklmnopqrstuvwxyz"));
                Collections.sort(choice);
                letters.append(choice.get(x / 16 % choice.size()));
                if (letters.length() > 8) {
                    return null;
                }
            }
        }
        return letters.toString();
    }

    // ---- trees

    /** Thrown where there would be too many trees to write out. */
    static final class TooMany extends RuntimeException {
        private static final long serialVersionUID = 1L;
    }

    /** A tree as its steps, and how deep its names stand. */
    record Tree(List<Integer> steps, int deep) { }

    List<Tree> trees(int n, String letters, int i, int j, Set<List<Integer>> above, int most) {
        List<Integer> self = List.of(n, i, j);
        if (above.contains(self) || !makes(n, letters.substring(i, j))) {
            return List.of();
        }
        Set<List<Integer>> within = new HashSet<>(above);
        within.add(self);
        List<Tree> found = new ArrayList<>();
        for (int r = 0; r < rules.size(); r++) {
            if (rules.get(r).name == n) {
                for (Tree rest : rows(rules.get(r).parts, letters, i, j, within, most)) {
                    List<Integer> steps = new ArrayList<>(List.of(r));
                    steps.addAll(rest.steps);
                    found.add(new Tree(steps, rest.deep + 1));
                    if (found.size() > most) {
                        throw new TooMany();
                    }
                }
            }
        }
        return found;
    }

    private List<Tree> rows(List<Integer> parts, String letters, int i, int j, Set<List<Integer>> above, int most) {
        if (parts.isEmpty()) {
            return i == j ? List.of(new Tree(List.of(), 0)) : List.of();
        }
        List<Tree> found = new ArrayList<>();
        int part = parts.get(0);
        List<Integer> others = parts.subList(1, parts.size());
        for (int e = i; e <= j; e++) {
            if (!partMakes(part, letters.substring(i, e)) || !rowMakes(others, letters.substring(e, j))) {
                continue;
            }
            List<Tree> own = part > 0 ? List.of(new Tree(List.of(-1 - (letters.charAt(i) - 'a')), 0))
                : trees(-1 - part, letters, i, e, above, most);
            List<Tree> rest = own.isEmpty() ? own : rows(others, letters, e, j, above, most);
            for (Tree a : own) {
                for (Tree b : rest) {
                    List<Integer> steps = new ArrayList<>(a.steps);
                    steps.addAll(b.steps);
                    found.add(new Tree(steps, Math.max(a.deep, b.deep)));
                    if (found.size() > most) {
                        throw new TooMany();
                    }
                }
            }
        }
        return found;
    }

    private final Map<List<Object>, BigInteger> countKnown = new HashMap<>();

    /** How many trees there are, all names above told, without writing them out. */
    BigInteger count(int n, String letters, int i, int j, Set<List<Integer>> above) {
        List<Integer> self = List.of(n, i, j);
        if (above.contains(self)) {
            return BigInteger.ZERO;
        }
        Set<List<Integer>> within = new HashSet<>(above);
        within.removeIf(a -> a.get(1) != i || a.get(2) != j);
        List<Object> key = List.of(self, Set.copyOf(within), letters);
        BigInteger all = countKnown.get(key);
        if (all == null) {
            within.add(self);
            all = BigInteger.ZERO;
            for (Rule rule : rules) {
                if (rule.name == n) {
                    all = all.add(countRow(rule.parts, letters, i, j, within));
                }
            }
            countKnown.put(key, all);
        }
        return all;
    }

    private BigInteger countRow(List<Integer> parts, String letters, int i, int j, Set<List<Integer>> above) {
        if (parts.isEmpty()) {
            return i == j ? BigInteger.ONE : BigInteger.ZERO;
        }
        BigInteger all = BigInteger.ZERO;
        for (int e = i; e <= j; e++) {
            BigInteger own = countPart(parts.get(0), letters, i, e, above);
            if (own.signum() > 0) {
                all = all.add(own.multiply(countRow(parts.subList(1, parts.size()), letters, e, j, above)));
            }
        }
        return all;
    }

    private BigInteger countPart(int part, String letters, int i, int e, Set<List<Integer>> above) {
        return part < 0 ? count(-1 - part, letters, i, e, above)
            : partMakes(part, letters.substring(i, e)) ? BigInteger.ONE : BigInteger.ZERO;
    }

    /** The steps of tree k, of those that count() counts; how deep its names stand is what comes back. */
    int tell(int n, String letters, int i, int j, Set<List<Integer>> above, BigInteger k, List<Integer> steps) {
        Set<List<Integer>> within = new HashSet<>(above);
        within.add(List.of(n, i, j));
        BigInteger left = k;
        for (int r = 0; r < rules.size(); r++) {
            if (rules.get(r).name == n) {
                BigInteger here = countRow(rules.get(r).parts, letters, i, j, within);
                if (left.compareTo(here) < 0) {
                    steps.add(r);
                    return 1 + tellRow(rules.get(r).parts, letters, new int[] {i, j}, within, left, steps);
                }
                left = left.subtract(here);
            }
        }
        throw new IllegalStateException("no such tree");
    }

    private int tellRow(List<Integer> parts, String letters, int[] span, Set<List<Integer>> above, BigInteger k,
        List<Integer> steps) {
        if (parts.isEmpty()) {
            return 0;
        }
        List<Integer> others = parts.subList(1, parts.size());
        BigInteger left = k;
        for (int e = span[0]; e <= span[1]; e++) {
            BigInteger behind = countRow(others, letters, e, span[1], above);
            BigInteger here = countPart(parts.get(0), letters, span[0], e, above).multiply(behind);
            if (left.compareTo(here) < 0) {
                BigInteger[] shares = left.divideAndRemainder(behind);
                int deep = 0;
                if (parts.get(0) < 0) {
                    deep = tell(-1 - parts.get(0), letters, span[0], e, above, shares[0], steps);
                } else {
                    steps.add(-1 - (letters.charAt(span[0]) - 'a'));
                }
                return Math.max(deep, tellRow(others, letters, new int[] {e, span[1]}, above, shares[1], steps));
            }
            left = left.subtract(here);
        }
        throw new IllegalStateException("no such row");
    }

    // ---- the proper grammar

    Set<Rule> proper() {
        Set<Rule> rows = new HashSet<>();
        for (Rule rule : usefulRules()) {
            if (usefulNames().contains(rule.name)) {
                for (List<Integer> row : without(rule.parts)) {
                    if (!row.isEmpty()) {
                        rows.add(new Rule(rule.name, row));
                    }
                }
            }
        }
        Set<Rule> joined = new HashSet<>();
        for (int a = 0; a < names; a++) {
            Set<Integer> leads = new HashSet<>(List.of(a));
            for (int round = 0; round < names; round++) {
                for (Rule row : rows) {
                    if (leads.contains(row.name) && isUnit(row)) {
                        leads.add(-1 - row.parts.get(0));
                    }
                }
            }
            for (Rule row : rows) {
                if (leads.contains(row.name) && !isUnit(row)) {
                    joined.add(new Rule(a, row.parts));
                }
            }
        }
        return onlyUseful(joined);
    }

    private static boolean isUnit(Rule rule) {
        return rule.parts.size() == 1 && rule.parts.get(0) < 0;
    }

    private List<List<Integer>> without(List<Integer> parts) {
        if (parts.isEmpty()) {
            return List.of(List.of());
        }
        List<List<Integer>> found = new ArrayList<>();
        for (List<Integer> rest : without(parts.subList(1, parts.size()))) {
            List<Integer> with = new ArrayList<>(List.of(parts.get(0)));
            with.addAll(rest);
            found.add(with);
            if (isEmptyName(parts.get(0))) {
                found.add(rest);
            }
        }
        return found;
    }

    private Set<Rule> onlyUseful(Set<Rule> among) {
        Set<Integer> ending = new HashSet<>();
        boolean more = true;
        while (more) {
            more = false;
            for (Rule rule : among) {
                if (rule.parts.stream().allMatch(p -> p > 0 || ending.contains(-1 - p))) {
                    more |= ending.add(rule.name);
                }
            }
        }
        List<Rule> left = among.stream()
            .filter(r -> r.parts.stream().allMatch(p -> p > 0 || ending.contains(-1 - p))).toList();
        Set<Integer> reached = ending.contains(0) ? reach(left) : Set.of();
        Set<Rule> found = new HashSet<>(left);
        found.removeIf(r -> !reached.contains(r.name));
        return found;
    }

    /** Whether some letters are a text of the proper grammar, by its own rules. */
    boolean properlyMakes(String letters) {
        int[][] moves = new int[letters.length() + 1][27];
        for (int s = 0; s < moves.length; s++) {
            Arrays.fill(moves[s], -1);
            if (s < letters.length()) {
                moves[s][letters.charAt(s) - 'a'] = s + 1;
            }
        }
        return meets(new ArrayList<>(proper()), names, 0, moves);
    }
}

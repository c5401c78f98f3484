import java.util.ArrayList;
import java.util.Arrays;
import java.util.HashSet;
import java.util.List;
import java.util.Set;

/**
 * Grammars and texts made by a fixed row of numbers; each answer against the oracle's.
 * The first argument tells how many grammars, the second one where the row of numbers begins.
 */
public final class OracleTest {
    private static final Check CHECK = new Check();
    private static final String[] NAME_POOL = {"S", "A", "A1", "A01", "B", "Z9", "Z99", "C", "D", "E0"};
    /** Ones that the dice would hardly make: all names in circles, the most of all, far ways. */
    private static final String[] SPECIAL = {
        "A:B|C|'a';B:C|D|;C:D|E;D:E|F;E:F|G;F:G|H;G:H|A;H:A|B|'b';",
        "A:B B|C|'a';B:C A|;C:D|E A;D:E|A;E:A|'b'|;",
        "A:B;B:C;C:D;D:E;E:F;F:G;G:H;H:A|'a'H|;",
        "A:H G;B:C'a';C:D|;D:E|B;E:F C;F:G|'b';G:H F|;H:A|'ba';",
        "S:(((S|'a')?'b')*|'a')?;",
        "S:'abc'+[a-c]?;", "S:S S S S|[a-b]|;", "A1:A01 A A|;A:A1|'b';A01:A?'a';",
        "S:||||||||||||||||'a'S'b'|S S|;",
    };
    private static long x;
    private static String tape;
    private static final int[] FAULTS = new int[6];
    private static int manyTrees;

    private OracleTest() { }

    public static void main(String[] args) {
        int grammars = args.length > 0 ? Integer.parseInt(args[0]) : 1500;
        x = args.length > 1 ? Long.parseLong(args[1]) : 1;
        for (int g = 0; g < grammars; g++) {
            tryGrammar(g);
        }
        System.out.println("of " + grammars + " grammars so many had fault 0 to 5: " + Arrays.toString(FAULTS)
            + "; " + manyTrees + " texts had too many trees to write out");
        CHECK.close();
    }

    private static int dice(int n) {
        x = x * 6364136223846793005L + 1442695040888963407L;
        return (int) Long.remainderUnsigned(x >>> 33, n);
    }

    private static void due(String call, long got, long want) {
        CHECK.due("<" + tape + "> " + call, got, want);
    }

    // ---- making grammars

    private static String grammar(int g) {
        int rules = 1 + dice(g % 7 == 0 ? 9 : 4);
        StringBuilder signs = new StringBuilder();
        int letters = 1 + dice(3);
        for (int r = 0; r < rules; r++) {
            signs.append(blank()).append(NAME_POOL[dice(20) == 0 ? dice(10) : r]).append(blank()).append(':');
            choices(signs, rules, letters, 0);
            signs.append(';');
        }
        signs.append(blank());
        for (int m = dice(6) == 0 ? 1 + dice(2) : 0; m > 0; m--) {
            spoil(signs);
        }
        return signs.length() > 240 ? signs.substring(0, 240) : signs.toString();
    }

    private static String blank() {
        return dice(6) == 0 ? "  ".substring(dice(2)) : "";
    }

    private static void choices(StringBuilder signs, int rules, int letters, int depth) {
        int rows = 1 + dice(depth > 0 ? 2 : 3);
        for (int k = 0; k < rows; k++) {
            signs.append(k == 0 ? "" : "|");
            int parts = dice(30) == 0 ? 5 : dice(4);
            for (int p = 0; p < parts; p++) {
                atom(signs, rules, letters, depth);
            }
        }
    }

    private static void atom(StringBuilder signs, int rules, int letters, int depth) {
        int kind = dice(depth > 0 ? 10 : 24) % 12;
        signs.append(blank());
        if (kind < 5) {
            signs.append(NAME_POOL[dice(90) == 0 ? dice(10) : dice(rules)]);
        } else if (kind < 9 || depth > 3) {
            signs.append('\'');
            for (int k = dice(4) == 0 ? 1 + dice(3) : 1; k > 0; k--) {
                signs.append((char) ('a' + dice(letters)));
            }
            signs.append('\'');
        } else if (kind < 10) {
            int low = dice(letters);
            signs.append('[').append((char) ('a' + low)).append('-')
                .append((char) ('a' + low + dice(letters - low))).append(']');
        } else {
            signs.append('(');
            choices(signs, rules, letters, depth + 1);
            signs.append(')');
        }
        signs.append(blank()).append(dice(9) == 0 ? "?*+".substring(dice(3)).substring(0, 1) : "");
    }

    private static void spoil(StringBuilder signs) {
        String with = ":;|()?*+'[]-AZ09az ~#\"";
        int at = dice(signs.length());
        switch (dice(3)) {
            case 0: signs.setCharAt(at, with.charAt(dice(with.length()))); break;
            case 1: signs.insert(at, with.charAt(dice(with.length()))); break;
            default: signs.deleteCharAt(at);
        }
    }

    // ---- comparing

    private static void tryGrammar(int g) {
        tape = g < SPECIAL.length ? SPECIAL[g] : grammar(g);
        Oracle oracle = new Oracle(tape);
        GrammarHouse house = new GrammarHouse();
        due("type", Check.type(house, tape), tape.length());
        due("read()", house.read(), oracle.fault == 0 ? oracle.rules.size() : -10 - oracle.fault);
        due("fault(0)", house.fault(0), oracle.fault);
        due("fault(1)", house.fault(1), oracle.place);
        FAULTS[oracle.fault]++;
        if (oracle.fault != 0) {
            due("sum(2)", house.sum(2), GrammarHouse.STATE);
            return;
        }
        compareGrammar(house, oracle);
        compareProper(house, oracle);
        for (int t = 0; t < 3; t++) {
            String letters = text(house, oracle);
            compareText(house, oracle, letters);
            compareChanges(house, oracle, letters);
            compareTrees(house, oracle, letters);
        }
        compareDigest(house);
    }

    private static void compareGrammar(GrammarHouse house, Oracle oracle) {
        due("sum(0)", house.sum(0), oracle.told);
        due("sum(1)", house.sum(1), oracle.names);
        due("sum(3)", house.sum(3), oracle.rules.stream().mapToInt(r -> r.parts().size()).sum());
        int clashes = 0;
        for (int n = 0; n < oracle.names; n++) {
            for (int what = 0; what < 8; what++) {
                due("name(" + n + ", " + what + ")", house.name(n, what), oracle.nameValue(n, what));
            }
            for (int k = 0; k < 4; k++) {
                String signs = n < oracle.told ? oracle.nameSigns.get(n) : "";
                due("nameSign(" + n + ", " + k + ")", house.nameSign(n, k), k < signs.length() ? signs.charAt(k) : -1);
            }
            due("first(" + n + ")", house.first(n), oracle.first(n));
            due("follow(" + n + ")", house.follow(n), oracle.follow(n));
            List<List<Integer>> table = oracle.table(n);
            for (int c = 0; c <= 26; c++) {
                List<Integer> there = table.get(c);
                clashes += there.size() > 1 ? 1 : 0;
                due("table(" + n + ", " + c + ")", house.table(n, c),
                    there.isEmpty() ? -1 : there.size() > 1 ? -2 : there.get(0));
            }
        }
        due("sum(5)", house.sum(5), clashes);
        for (int r = 0; r < oracle.rules.size(); r++) {
            Oracle.Rule rule = oracle.rules.get(r);
            due("rule(" + r + ", 0)", house.rule(r, 0), rule.name());
            due("rule(" + r + ", 1)", house.rule(r, 1), rule.parts().size());
            for (int i = 0; i < rule.parts().size(); i++) {
                due("part(" + r + ", " + i + ")", house.part(r, i), rule.parts().get(i));
            }
        }
    }

    private static void compareProper(GrammarHouse house, Oracle oracle) {
        Set<Oracle.Rule> proper = oracle.proper();
        due("proper(0)", house.proper(0), proper.size());
        due("proper(1)", house.proper(1), proper.stream().map(Oracle.Rule::name).distinct().count());
        due("proper(2)", house.proper(2), proper.stream().mapToInt(r -> r.parts().size()).sum());
    }

    /** The text becomes one made from a seed, or some letters, or that one with some letters behind. */
    private static String text(GrammarHouse house, Oracle oracle) {
        StringBuilder letters = new StringBuilder();
        for (int k = 0; k < house.sum(4); k++) {
            letters.append((char) ('a' + house.letter(k)));
        }
        for (int tries = 0; tries < 3; tries++) {
            int seed = dice(65536);
            String due = oracle.made(seed);
            due("made(" + seed + ")", house.made(seed), due == null ? -1 : due.length());
            if (due != null) {
                letters = new StringBuilder(due);
            }
        }
        for (int k = 0; k < letters.length(); k++) {
            due("letter(" + k + ")", house.letter(k), letters.charAt(k) - 'a');
        }
        int drop = dice(2) == 0 ? 0 : dice(letters.length() + 1);
        due("back(" + drop + ")", house.back(drop), letters.length() - drop);
        letters.setLength(letters.length() - drop);
        for (int more = dice(2) == 0 ? 0 : dice(5); more > 0 && letters.length() < 8; more--) {
            int c = dice(3);
            letters.append((char) ('a' + c));
            due("put(" + c + ")", house.put(c), letters.length());
        }
        return letters.toString();
    }

    private static void compareText(GrammarHouse house, Oracle oracle, String letters) {
        due("sum(4) of " + letters, house.sum(4), letters.length());
        for (int k = 0; k <= letters.length(); k++) {
            String head = letters.substring(0, k);
            String of = k + ") of " + letters;
            due("accepts(" + of, house.accepts(k), oracle.makes(0, head) ? 1 : 0);
            due("next(" + of, house.next(k), oracle.next(head));
            due("properly(" + of, house.properly(k), oracle.properlyMakes(head) ? 1 : 0);
            Set<List<Integer>> items = oracle.items(head);
            due("items(" + of, house.items(k), items.size());
            compareItems(house, oracle, items, k, letters);
            for (int n = 0; n < oracle.names; n++) {
                for (int i = 0; i <= k; i++) {
                    due("makes(" + n + ", " + i + ", " + of, house.makes(n, i, k),
                        oracle.makes(n, letters.substring(i, k)) ? 1 : 0);
                }
            }
        }
    }

    private static void compareItems(GrammarHouse house, Oracle oracle, Set<List<Integer>> items, int k, String letters) {
        int found = 0;
        for (int r = 0; r < oracle.rules.size(); r++) {
            for (int d = 0; d <= oracle.rules.get(r).parts().size(); d++) {
                for (int i = 0; i <= letters.length(); i++) {
                    int is = house.isItem(r, d, i, k);
                    due("isItem(" + r + ", " + d + ", " + i + ", " + k + ") of " + letters, is,
                        items.contains(List.of(r, d, i)) ? 1 : 0);
                    found += is;
                }
            }
        }
        due("all isItem() at " + k + " of " + letters, found, items.size());
    }

    /** By all texts of the grammar up to a length: what is found within it is the least there is. */
    private static void compareChanges(GrammarHouse house, Oracle oracle, String letters) {
        StringBuilder alphabet = new StringBuilder("a");
        for (Oracle.Rule rule : oracle.rules) {
            for (int part : rule.parts()) {
                if (part >= 8) {
                    // Texts with further letters would be too many to write out.
                    return;
                }
                for (char c = 'a'; c <= 'c' && part > 0; c++) {
                    if ((part >> c - 'a' & 1) != 0 && alphabet.indexOf(String.valueOf(c)) < 0) {
                        alphabet.append(c);
                    }
                }
            }
        }
        int most = alphabet.length() == 1 ? 14 : alphabet.length() == 2 ? 7 : 5;
        Set<String> texts = oracle.texts(0, most, alphabet.toString());
        int changes = Integer.MAX_VALUE;
        for (String text : texts) {
            changes = Math.min(changes, Oracle.distance(letters, text));
        }
        if (oracle.least()[0] < 0) {
            due("repair() of " + letters, house.repair(), -1);
        } else if (oracle.makes(0, letters)) {
            due("repair() of " + letters, house.repair(), 0);
        } else if (changes <= Math.max(1, most + 1 - letters.length())) {
            due("repair() of " + letters, house.repair(), changes);
        } else {
            int got = house.repair();
            due("repair() is too low or too high: " + got + " of " + letters,
                got >= 1 && got <= changes && got > most - letters.length() ? 1 : 0, 1);
        }
        for (int k = 0; k <= letters.length(); k++) {
            compareEnd(house, oracle, texts, letters.substring(0, k), most);
        }
    }

    private static void compareEnd(GrammarHouse house, Oracle oracle, Set<String> texts, String head, int most) {
        int wanted = texts.stream().filter(t -> t.startsWith(head))
            .mapToInt(t -> t.length() - head.length()).min().orElse(-1);
        int got = house.end(head.length());
        if (wanted >= 0) {
            due("end() of " + head, got, wanted);
        } else if (oracle.next(head) == 0) {
            due("end() of " + head, got, -1);
        } else {
            due("end() is too low: " + got + " of " + head, got > most - head.length() ? 1 : 0, 1);
        }
    }

    private static void compareTrees(GrammarHouse house, Oracle oracle, String letters) {
        try {
            for (int n = 0; n < oracle.names; n++) {
                for (int i = 0; i <= letters.length(); i++) {
                    int j = i + dice(letters.length() - i + 1);
                    due("trees(" + n + ", " + i + ", " + j + ") of " + letters, house.trees(n, i, j),
                        oracle.trees(n, letters, i, j, Set.of(), 300).size());
                }
            }
            List<Oracle.Tree> trees = oracle.trees(0, letters, 0, letters.length(), Set.of(), 300);
            due("all trees of " + letters, new HashSet<>(trees).size(), trees.size());
            for (int k = 0; k < trees.size(); k++) {
                comparePicked(house, trees.get(k), "pick(" + k + ") of " + letters, k);
            }
            long before = house.digest();
            due("pick() behind all trees of " + letters, house.pick(trees.size()), -1);
            due("digest() as before", house.digest(), before);
        } catch (Oracle.TooMany many) {
            manyTrees++;
        }
    }

    private static void comparePicked(GrammarHouse house, Oracle.Tree tree, String call, int k) {
        if (tree.steps().size() > 300) {
            due(call, house.pick(k), GrammarHouse.FULL);
            return;
        }
        due(call, house.pick(k), tree.steps().size());
        due("sum(6) behind " + call, house.sum(6), tree.steps().size());
        for (int s = 0; s < tree.steps().size(); s++) {
            due("step(" + s + ") behind " + call, house.step(s), tree.steps().get(s));
        }
        due("deep() behind " + call, house.deep(), tree.deep());
    }

    private static void compareDigest(GrammarHouse house) {
        List<Long> all = new ArrayList<>(List.of((long) tape.length(), (long) house.fault(0), (long) house.fault(1)));
        for (int what = 0; what <= 6; what++) {
            all.add((long) house.sum(what));
        }
        for (int n = 0; n < house.sum(1); n++) {
            for (int what = 0; what <= 7; what++) {
                all.add((long) house.name(n, what));
            }
            all.add((long) house.first(n));
            all.add((long) house.follow(n));
        }
        for (int k = 0; k < house.sum(4); k++) {
            all.add((long) house.letter(k));
        }
        for (int k = 0; k <= house.sum(4); k++) {
            all.addAll(List.of((long) house.next(k), (long) house.items(k), (long) house.end(k)));
        }
        for (int s = 0; s < house.sum(6); s++) {
            all.add((long) house.step(s));
        }
        for (int what = 0; what <= 2; what++) {
            all.add((long) house.proper(what));
        }
        long h = 17;
        for (long v : all) {
            h = 31 * h + v;
        }
        due("digest()", house.digest(), h);
    }
}

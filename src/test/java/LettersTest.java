/** Promises 15 to 25: put, back, made, letter, accepts, next, items, isItem, makes, end, repair. */
public final class LettersTest {
    private static final Check CHECK = new Check();

    private LettersTest() { }

    public static void main(String[] args) {
        putAndBack();
        made();
        letter();
        accepts();
        next();
        items();
        makes();
        end();
        repair();
        withoutGrammar();
        alwaysHolds();
        CHECK.close();
    }

    private static void due(String call, long got, long want) {
        CHECK.due(call, got, want);
    }

    private static void putAndBack() {
        GrammarHouse house = Check.houseOf("S:'a'S|;");
        due("15: put(26)", house.put(26), GrammarHouse.OUTSIDE);
        due("15: put(-1)", house.put(-1), GrammarHouse.OUTSIDE);
        for (int k = 0; k < 8; k++) {
            due("15: put " + k, house.put(k == 3 ? 25 : 0), k + 1);
        }
        due("15: no ninth", house.put(0), GrammarHouse.FULL);
        due("15: outside ahead of full", house.put(26), GrammarHouse.OUTSIDE);
        due("15: still eight", house.sum(4), 8);
        due("15: letter(3)", house.letter(3), 25);
        due("16: back(-1)", house.back(-1), GrammarHouse.OUTSIDE);
        due("16: back(9)", house.back(9), GrammarHouse.OUTSIDE);
        due("16: back(5)", house.back(5), 3);
        due("16: pick", house.pick(0), 7);
        due("16: back(4)", house.back(4), GrammarHouse.OUTSIDE);
        due("16: what is refused changes nothing", house.step(0), 0);
        due("16: back(0)", house.back(0), 3);
        due("16: no tree is picked", house.step(0), GrammarHouse.STATE);
        house.pick(0);
        due("15: put(27)", house.put(27), GrammarHouse.OUTSIDE);
        due("15: the tree stays", house.sum(6), 7);
        due("15: put", house.put(1), 4);
        due("15: no tree is picked", house.sum(6), 0);
        due("16: back(4)", house.back(4), 0);
        due("16: back(1)", house.back(1), GrammarHouse.OUTSIDE);
        due("16: back(0) of none", house.back(0), 0);
    }

    private static void made() {
        // x = 13849 for the one rule; then x = 48742: 3046 modulo 26 is 4.
        GrammarHouse house = Check.houseOf("S:[a-z];");
        due("17: made(0)", house.made(0), 1);
        due("17: its letter", house.letter(0), 4);
        due("17: pick", house.pick(0), 2);
        due("17: made(-1)", house.made(-1), GrammarHouse.OUTSIDE);
        due("17: made(65536)", house.made(65536), GrammarHouse.OUTSIDE);
        due("17: the tree stays", house.sum(6), 2);
        due("17: made(65535)", house.made(65535), 1);
        due("17: no tree is picked", house.sum(6), 0);
        // x = 54212, then 36397: 2274 modulo 26 is 12.
        due("17: its letter", house.letter(0), 12);
        // Useful rules alone are drawn: B has none.
        house = Check.houseOf("S:B|'a'|B B|'b';B:B;");
        for (int seed = 0; seed < 20; seed++) {
            int x = (25173 * seed + 13849) % 65536;
            due("17: useful " + seed, house.made(seed), 1);
            due("17: its letter " + seed, house.letter(0), x / 16 % 2);
        }
        // Nine letters are too many; eight are not.
        house = Check.houseOf("S:A A;A:'abc''d';");
        due("17: eight", house.made(5), 8);
        house.back(6);
        house.pick(0);
        Check.read(house, "S:A A'a';A:'abc''d';");
        Check.put(house, "abc");
        due("17: nine", house.made(5), -1);
        due("17: the text stays", house.sum(4), 3);
        due("17: NAME 0 does not end", Check.houseOf("S:S;").made(1), -1);
        draws();
    }

    /** A row of empty names needs a draw for each: 60 may be made, 61 not. */
    private static void draws() {
        // S is 1; each A is 1, its four B 4, their three C 12: 51 for the three; D is 1 and its
        // three C 3: 56; F is 1, and each C in it 1.
        GrammarHouse sixty = Check.houseOf("S:A A A D;A:B B B B;B:C C C;C:;D:C C C F;F:C C C;");
        due("17: 60 draws", sixty.made(9), 0);
        GrammarHouse more = Check.houseOf("S:A A A D;A:B B B B;B:C C C;C:;D:C C C F;F:C C C C;");
        due("17: 61 draws", more.made(9), -1);
    }

    private static void letter() {
        GrammarHouse house = Check.houseOf("S:;");
        due("18: none", house.letter(0), GrammarHouse.UNKNOWN);
        Check.put(house, "zay");
        due("18: letter(0)", house.letter(0), 25);
        due("18: letter(1)", house.letter(1), 0);
        due("18: letter(2)", house.letter(2), 24);
        due("18: letter(3)", house.letter(3), GrammarHouse.UNKNOWN);
        due("18: letter(-1)", house.letter(-1), GrammarHouse.UNKNOWN);
    }

    private static void accepts() {
        GrammarHouse house = Check.houseOf("S:'a'S'b'|;");
        Check.put(house, "aabb");
        int[] want = {1, 0, 0, 0, 1};
        for (int k = 0; k <= 4; k++) {
            due("19: accepts(" + k + ")", house.accepts(k), want[k]);
        }
        due("19: accepts(5)", house.accepts(5), GrammarHouse.UNKNOWN);
        due("19: accepts(-1)", house.accepts(-1), GrammarHouse.UNKNOWN);
        house.back(1);
        due("19: accepts(4)", house.accepts(4), GrammarHouse.UNKNOWN);
        due("19: put", house.put(0), 4);
        due("19: accepts(4)", house.accepts(4), 0);
        house = Check.houseOf("S:S S|S'b'S|'a'|;");
        Check.put(house, "abbaabab");
        due("19: left recursive, unclear", house.accepts(8), 1);
    }

    private static void next() {
        GrammarHouse house = Check.houseOf("S:'a'S'b'|'c'D|E'z';D:'d'D;E:'e'?;");
        due("20: next(0)", house.next(0), Check.bits("aez"));
        Check.put(house, "ae");
        due("20: next(1)", house.next(1), Check.bits("aez"));
        due("20: next(2)", house.next(2), Check.bits("z"));
        Check.put(house, "z");
        due("20: next(3)", house.next(3), Check.bits("b"));
        Check.put(house, "b");
        due("20: the end", house.next(4), Check.bits("$"));
        Check.put(house, "b");
        due("20: nothing", house.next(5), 0);
        due("20: next(6)", house.next(6), GrammarHouse.UNKNOWN);
        due("20: next(-1)", house.next(-1), GrammarHouse.UNKNOWN);
        house.back(5);
        Check.put(house, "cd");
        due("20: what never ends", house.next(1), 0);
        due("20: what never ends", house.next(2), 0);
        house = Check.houseOf("S:'a'*;");
        due("20: and the end", house.next(0), Check.bits("a$"));
    }

    private static void items() {
        // 0: S: A S; 1: S: empty; 2: A: 'a'; 3: A: 'a' B; 4: B: B.
        GrammarHouse house = Check.houseOf("S:A S|;A:'a'|'a'B;B:B;");
        due("21: items(0)", house.items(0), 4);
        Check.put(house, "ab");
        // A done; A half done (useless, but an item); S behind A; S, A, A again, and B's.
        due("21: items(1)", house.items(1), 1 + 1 + 2 + 1 + 3 + 1);
        due("21: items(2)", house.items(2), 0);
        due("21: items(3)", house.items(3), GrammarHouse.UNKNOWN);
        due("21: items(-1)", house.items(-1), GrammarHouse.UNKNOWN);
        due("22: S at 0", house.isItem(0, 0, 0, 0), 1);
        due("22: S behind A", house.isItem(0, 1, 0, 1), 1);
        due("22: S behind A and S", house.isItem(0, 2, 0, 1), 1);
        due("22: S from 1", house.isItem(0, 0, 1, 1), 1);
        due("22: the empty S from 1", house.isItem(1, 0, 1, 1), 1);
        due("22: the empty S from 0 to 1", house.isItem(1, 0, 0, 1), 0);
        due("22: A done", house.isItem(2, 1, 0, 1), 1);
        due("22: A with B to come", house.isItem(3, 1, 0, 1), 1);
        due("22: B", house.isItem(4, 0, 1, 1), 1);
        due("22: B at 0", house.isItem(4, 0, 0, 0), 0);
        due("22: i above k", house.isItem(0, 0, 1, 0), 0);
        due("22: no rule", house.isItem(5, 0, 0, 0), GrammarHouse.UNKNOWN);
        due("22: no rule", house.isItem(-1, -1, 0, 0), GrammarHouse.UNKNOWN);
        due("22: no i", house.isItem(0, 9, 3, 0), GrammarHouse.UNKNOWN);
        due("22: no i", house.isItem(0, 0, -1, 0), GrammarHouse.UNKNOWN);
        due("22: no k", house.isItem(0, 0, 0, 3), GrammarHouse.UNKNOWN);
        due("22: no k", house.isItem(0, 0, 0, -1), GrammarHouse.UNKNOWN);
        due("22: d below 0", house.isItem(0, -1, 0, 0), GrammarHouse.OUTSIDE);
        due("22: d above the parts", house.isItem(0, 3, 0, 0), GrammarHouse.OUTSIDE);
        due("22: d above the parts, i above k", house.isItem(1, 1, 1, 0), GrammarHouse.OUTSIDE);
    }

    private static void makes() {
        GrammarHouse house = Check.houseOf("S:'x'A;A:'a'A'b'|B;B:;C:'b'C|'b';");
        Check.put(house, "xaabb");
        due("23: S", house.makes(0, 0, 5), 1);
        due("23: S not all", house.makes(0, 0, 4), 0);
        due("23: S x", house.makes(0, 0, 1), 1);
        due("23: A", house.makes(1, 1, 5), 1);
        due("23: A inside", house.makes(1, 2, 4), 1);
        due("23: A askew", house.makes(1, 1, 4), 0);
        due("23: A empty", house.makes(1, 5, 5), 1);
        due("23: S empty", house.makes(0, 0, 0), 0);
        due("23: C is not reached", house.makes(3, 3, 5), 1);
        due("23: B", house.makes(2, 0, 1), 0);
        due("23: no name", house.makes(4, 5, 0), GrammarHouse.UNKNOWN);
        due("23: no name", house.makes(-1, 0, 0), GrammarHouse.UNKNOWN);
        due("23: no i", house.makes(0, 6, 0), GrammarHouse.UNKNOWN);
        due("23: no i", house.makes(0, -1, 0), GrammarHouse.UNKNOWN);
        due("23: no j", house.makes(0, 0, 6), GrammarHouse.UNKNOWN);
        due("23: no j", house.makes(0, 0, -1), GrammarHouse.UNKNOWN);
        due("23: i above j", house.makes(0, 1, 0), GrammarHouse.OUTSIDE);
    }

    private static void end() {
        GrammarHouse house = Check.houseOf("S:'a'S'b'|'c'D|'ef'G;D:'d'D;G:'g'G|'hij';");
        due("24: the least of all", house.end(0), 5);
        Check.put(house, "aae");
        due("24: end(1)", house.end(1), 6);
        due("24: end(2)", house.end(2), 7);
        due("24: end(3)", house.end(3), 4 + 2);
        Check.put(house, "fggh");
        due("24: end(6)", house.end(6), 3 + 2);
        due("24: end(7)", house.end(7), 2 + 2);
        house.back(7);
        Check.put(house, "ca");
        due("24: never", house.end(1), -1);
        due("24: not so", house.end(2), -1);
        due("24: end(3)", house.end(3), GrammarHouse.UNKNOWN);
        due("24: end(-1)", house.end(-1), GrammarHouse.UNKNOWN);
        house = Check.houseOf("S:S S|'a'S'a'|'b';");
        Check.put(house, "abab");
        int[] want = {1, 2, 1, 0, 0};
        for (int k = 0; k <= 4; k++) {
            due("24: end(" + k + ") of abab", house.end(k), want[k]);
        }
        due("24: no texts", Check.houseOf("S:S;").end(0), -1);
    }

    private static void repaired(String grammar, String letters, int want) {
        GrammarHouse house = Check.houseOf(grammar);
        Check.put(house, letters);
        due("25: repair() of " + letters + " in " + grammar, house.repair(), want);
    }

    private static void repair() {
        repaired("S:'abc';", "", 3);
        repaired("S:'abc';", "abc", 0);
        repaired("S:'abc';", "ac", 1);
        repaired("S:'abc';", "aabc", 1);
        repaired("S:'abc';", "axc", 1);
        repaired("S:'abc';", "cba", 2);
        repaired("S:'abc';", "bcabcabc", 5);
        repaired("S:;", "abcdefgh", 8);
        repaired("S:A|S A;A:;", "ab", 2);
        repaired("S:S'a'|S S|'b';", "aaaa", 1);
        repaired("S:'a'S'b'|;", "abab", 2);
        repaired("S:'a'S'b'|;", "bbaa", 3);
        repaired("S:[a-c][b-d]*;", "dddda", 2);
        repaired("S:S;", "a", -1);
        repaired("S:S A|A S;A:'a';", "", -1);
        repaired("S:'a'B|'ccc''c';B:B;", "a", 4);
        GrammarHouse house = Check.houseOf("S:'ab'*;");
        int[] want = {0, 1, 1, 2, 2, 3, 3, 4, 4};
        for (int k = 0; k <= 8; k++) {
            due("25: " + k + " times a", house.repair(), want[k]);
            house.put(0);
        }
        house.back(5);
        house.put(1);
        due("25: aaab", house.repair(), 1);
    }

    private static void withoutGrammar() {
        GrammarHouse house = new GrammarHouse();
        due("15: put(0)", house.put(0), GrammarHouse.STATE);
        due("15: put(26)", house.put(26), GrammarHouse.OUTSIDE);
        due("16: back(0)", house.back(0), GrammarHouse.STATE);
        due("16: back(-1)", house.back(-1), GrammarHouse.OUTSIDE);
        due("17: made(0)", house.made(0), GrammarHouse.STATE);
        due("17: made(65536)", house.made(65536), GrammarHouse.OUTSIDE);
        due("18: letter(-1)", house.letter(-1), GrammarHouse.STATE);
        due("19: accepts(-1)", house.accepts(-1), GrammarHouse.STATE);
        due("20: next(9)", house.next(9), GrammarHouse.STATE);
        due("21: items(9)", house.items(9), GrammarHouse.STATE);
        due("22: isItem(9, 0, 9, 9)", house.isItem(9, 0, 9, 9), GrammarHouse.STATE);
        due("22: isItem(9, -1, 9, 9)", house.isItem(9, -1, 9, 9), GrammarHouse.OUTSIDE);
        due("22: isItem(0, 99, 0, 0)", house.isItem(0, 99, 0, 0), GrammarHouse.STATE);
        due("23: makes(9, 9, 9)", house.makes(9, 9, 9), GrammarHouse.STATE);
        due("23: makes(9, 9, 8)", house.makes(9, 9, 8), GrammarHouse.OUTSIDE);
        due("24: end(-1)", house.end(-1), GrammarHouse.STATE);
        due("25: repair()", house.repair(), GrammarHouse.STATE);
    }

    /** A text is accepted if and only if each letter is in what next() told ahead of it, and the end. */
    private static void alwaysHolds() {
        String[] grammars = {"S:S S|A;A:'a'S'b'|'c'|;", "S:A B'c'|B;A:'a'+;B:('b'A)*;", "S:S'a'|'b'C;C:C'c'S|'c'?;"};
        for (String grammar : grammars) {
            GrammarHouse house = Check.houseOf(grammar);
            for (int code = 0; code < 729; code++) {
                house.back(house.sum(4));
                boolean fits = true;
                for (int k = 0, rest = code; k < 6; k++, rest /= 3) {
                    fits &= (house.next(k) >> rest % 3 & 1) != 0;
                    house.put(rest % 3);
                }
                fits &= (house.next(6) >> 26 & 1) != 0;
                String of = " of text " + code + " in " + grammar;
                due("accepts()" + of, house.accepts(6), fits ? 1 : 0);
                due("makes()" + of, house.makes(0, 0, 6), fits ? 1 : 0);
                due("properly()" + of, house.properly(6), fits ? 1 : 0);
                due("end() is 0" + of, house.end(6) == 0 ? 1 : 0, fits ? 1 : 0);
                due("repair() is 0" + of, house.repair() == 0 ? 1 : 0, fits ? 1 : 0);
                due("trees() are some" + of, house.trees(0, 0, 6) != 0 ? 1 : 0, fits ? 1 : 0);
            }
        }
    }
}

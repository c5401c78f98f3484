/** The sentences that name a boundary in "1 Grammars": FAULT 3 to 5, made NAMES, RULES, PARTS (promise 5). */
public final class ReadEdgesTest {
    private static final Check CHECK = new Check();

    private ReadEdgesTest() { }

    public static void main(String[] args) {
        eightNames();
        madeNamesCount();
        namesInRows();
        twentyRules();
        madeRulesCount();
        fourParts();
        quoteParts();
        groupPart();
        partsLeave();
        threeOpen();
        toldTwice();
        withoutRules();
        numbering();
        leftOut();
        anyNumber();
        onceAtLeast();
        emptyRows();
        mostOfAll();
        partNumbers();
        afterFaults();
        oneAfterTheOther();
        CHECK.close();
    }

    private static void due(String call, long got, long want) {
        CHECK.due(call, got, want);
    }

    private static void bad(String tape, int kind, int place) {
        GrammarHouse house = new GrammarHouse();
        due("read() of " + tape, Check.read(house, tape), -10 - kind);
        due("fault(1) of " + tape, house.fault(1), place);
    }

    private static GrammarHouse good(String tape, int rules) {
        GrammarHouse house = new GrammarHouse();
        due("read() of " + tape, Check.read(house, tape), rules);
        due("fault(1) of " + tape, house.fault(1), GrammarHouse.NONE);
        return house;
    }

    /** A rule of a grammar as it is due: its name, and its parts as part() tells them. */
    private static void rule(GrammarHouse house, int r, int name, int... parts) {
        due("rule(" + r + ", 0)", house.rule(r, 0), name);
        due("rule(" + r + ", 1)", house.rule(r, 1), parts.length);
        for (int i = 0; i < parts.length; i++) {
            due("part(" + r + ", " + i + ")", house.part(r, i), parts[i]);
        }
        due("part(" + r + ", " + parts.length + ")", house.part(r, parts.length), GrammarHouse.UNKNOWN);
    }

    private static void eightNames() {
        CHECK.about("3: at most 8 NAMES. A NAME counts by the TOKEN with which its rule begins");
        String seven = "A:;B:;C:;D:;E:;F:;G:;";
        due("eight", good(seven + "H:;", 8).sum(1), 8);
        bad(seven + "H:;I:;", 3, 24);
        bad(seven + "H:; I", 3, 25);
        bad(seven + "H:;I1 :;", 3, 24);
    }

    private static void madeNamesCount() {
        CHECK.about("told and made ones together; a made one by the TOKEN that makes it");
        String seven = "A:;B:;C:;D:;E:;F:;G:;";
        due("by )", good(seven.substring(3) + "H:();", 8).sum(1), 8);
        due("by ?", good(seven.substring(3) + "H:'a'?;", 9).sum(1), 8);
        bad(seven + "H:();", 3, 24);
        bad(seven + "H:'a'?;", 3, 26);
        bad(seven + "H:'a'*;", 3, 26);
        bad(seven + "H:'a'+;", 3, 26);
        bad(seven + "()", 2, 21);
        // Made ones ahead of told ones.
        due("seven made", good("S:(()()())(()());", 8).sum(1), 8);
        bad("S:(()()())(()()())();", 3, 17);
        bad("S:(()())(()());T:;U:;", 3, 18);
        due("six made, two told", good("S:(()())(()());T:;", 8).sum(1), 8);
        bad("S:()?()?()?();T:;", 3, 14);
        bad("S:()?()?()?()?;", 3, 13);
    }

    private static void namesInRows() {
        CHECK.about("what stands in a row is no NAME more");
        bad("S:A B C D|E F G H|I J K L;", 5, 2);
        good("S:SSSS|SSSS|SSSS;", 3);
    }

    private static void twentyRules() {
        CHECK.about("3: 20 RULES. A RULE by the TOKEN that ends its row, |, ; or )");
        due("by ;", good("S:" + "|".repeat(19) + ";", 20).sum(2), 20);
        bad("S:" + "|".repeat(20) + ";", 3, 22);
        bad("S:" + "|".repeat(21) + ";", 3, 22);
        bad("S:" + "|".repeat(20) + "'a'", 2, 25);
        good("S:" + "|".repeat(18) + "();", 20);
        bad("S:" + "|".repeat(19) + "();", 3, 23);
        bad("S:" + "|".repeat(20) + "()", 3, 23);
        bad("S:(" + "|".repeat(20) + ");", 3, 23);
        bad("S:(" + "|".repeat(19) + ");", 3, 23);
        good("S:(" + "|".repeat(18) + ");", 20);
        bad("S:" + "|".repeat(9) + ";A:" + "|".repeat(10) + ";", 3, 24);
        good("S:" + "|".repeat(9) + ";A:" + "|".repeat(9) + ";", 20);
    }

    private static void madeRulesCount() {
        CHECK.about("or that makes it: a ?, *, + makes two");
        for (String sign : new String[] {"?", "*", "+"}) {
            good("S:" + "|".repeat(17) + "'a'" + sign + ";", 20);
            bad("S:" + "|".repeat(18) + "'a'" + sign + ";", 3, 24);
            bad("S:" + "|".repeat(19) + "'a'" + sign + ";", 3, 24);
            bad("S:" + "|".repeat(20) + "'a'" + sign + ";", 3, 25);
        }
        // 3 in the group and 2 by its sign; 7 and 2; then 6 rows.
        good("S:(||)?(||||||)*" + "|".repeat(5) + ";", 20);
        bad("S:(||)?(||||||)*" + "|".repeat(6) + ";", 3, 22);
    }

    private static void fourParts() {
        CHECK.about("3: 4 PARTS of a row. A PART by its TOKEN: a NAME, a CLASS is one");
        due("four names", good("S:S S S S;", 1).rule(0, 1), 4);
        due("four classes", good("S:[a-b][a-b][a-b][a-b];", 1).rule(0, 1), 4);
        bad("S:S S S S S;", 3, 10);
        bad("S:[a-b][a-b][a-b][a-b][a-b];", 3, 22);
        bad("S:S S S S[a-b];", 3, 9);
        bad("S:S S S S|S S S S S;", 3, 18);
        good("S:S S S S|S S S S;", 2);
        good("S:S S S S;A:S S S S;", 2);
    }

    private static void quoteParts() {
        CHECK.about("a QUOTE as many as it has letters");
        good("S:'abc''d';", 1);
        good("S:'ab''cd';", 1);
        bad("S:'abc''de';", 3, 7);
        bad("S:'ab''cde';", 3, 6);
        bad("S:S S S'ab';", 3, 7);
        bad("S:S S'abc';", 3, 5);
        bad("S:S S S S'a';", 3, 9);
        good("S:S S S'a';", 1);
        good("S:S'abc';", 1);
    }

    private static void groupPart() {
        CHECK.about("a ) one, whatever is behind it");
        good("S:S S S(S S S S);", 2);
        bad("S:S S S S(S);", 3, 11);
        bad("S:S S S S();", 3, 10);
        bad("S:S S S S()?;", 3, 10);
        bad("S:'abc'[a-c](|)*;", 3, 14);
        // The row in the ( ) has its own four; the outer one goes on behind it.
        bad("S:S(S S S S S);", 3, 12);
        bad("S:S S(S S S S)S S;", 3, 16);
        good("S:S S(S S S S)S;", 2);
        bad("S:((S S S S)S S S S);", 3, 18);
        // ( itself is none.
        bad("S:S S S S(", 2, 10);
    }

    private static void partsLeave() {
        CHECK.about("with ?, *, + its atom's PARTS leave the row, and one comes");
        bad("S:S S S S S?;", 3, 10);
        bad("S:S'abc''a'?;", 3, 8);
        good("S:S S S S?;", 3);
        for (String sign : new String[] {"?", "*", "+"}) {
            GrammarHouse house = good("S:S'abc'" + sign + "'xy';", 3);
            rule(house, 0, 0, -1, -2, 1 << 23, 1 << 24);
            bad("S:S'abc'" + sign + "'xyz';", 3, 9);
            good("S:'abc'" + sign + "'xyz';", 3);
            bad("S:'abc'" + sign + "'xyz'S;", 3, 13);
            rule(good("S:S S S S" + sign + ";", 3), 0, 0, -1, -1, -1, -2);
            bad("S:S S S S" + sign + "S;", 3, 10);
        }
        // Of the row only what stands right ahead leaves it.
        rule(good("S:'a''b'?;", 3), 0, 0, 1, -2);
        rule(good("S:'ab'S?;", 3), 0, 0, 1, 2, -2);
        rule(good("S:'ab'(S)?;", 4), 0, 0, 1, 2, -3);
    }

    private static void threeOpen() {
        CHECK.about("3: 3 ( in one another");
        due("three", good("S:((('a')));", 4).sum(1), 4);
        bad("S:(((('a'))));", 3, 5);
        bad("S:((((", 3, 5);
        bad("S:((()(", 2, 7);
        bad("S:((()((", 3, 7);
        due("again", good("S:((()))((()));", 7).sum(1), 7);
        good("S:()()()();", 5);
        good("S:((()))|((()));", 8);
        bad("S:((()))|((()((", 3, 14);
        good("S:((()));A:((()));", 8);
        bad("S:((()));A:((((", 3, 14);
    }

    private static void toldTwice() {
        CHECK.about("4 a NAME with rules that was told with rules ahead");
        bad("S:;S:;", 4, 3);
        bad("S:;A:;S:;", 4, 6);
        bad("S1:;S1:;", 4, 4);
        good("S:;S1:;S01:;", 3);
        good("S:A A;A:S;", 2);
        // It is none more of the eight that are.
        bad("A:;B:;C:;D:;E:;F:;G:;H:;H:;", 4, 24);
        bad("S:'a'?'a'?'a'?'a'?|'a'?'a'?'a'?;S:;", 4, 32);
    }

    private static void withoutRules() {
        CHECK.about("5 a NAME that stands in a row, and has no rules: the first one");
        bad("S:A;", 5, 2);
        bad("S:S A B;", 5, 4);
        bad("S:C B A;A:;", 5, 2);
        bad("S:A B;A:C;", 5, 4);
        bad("S:A B;A:C;B:;", 5, 8);
        bad("S:S|S(S|A)*;", 5, 8);
        bad("S:A?;", 5, 2);
        bad("S:S1;S01:;", 5, 2);
        good("S:A B;B:A;A:;", 3);
    }

    private static void numbering() {
        CHECK.about("NAMES are numbered as they are told with rules; the made ones behind all of these, as the TOKENS"
            + " stand that make them");
        // Made: 2 by the inner ), 3 by the outer ), 4 by +, 5 by ?, 6 by *.
        GrammarHouse house = good("A:B((B)'a')+B;B:'c'?|A*;", 11);
        due("told", house.sum(0), 2);
        due("all", house.sum(1), 7);
        rule(house, 0, 0, -2, -5, -2);
        rule(house, 1, 1, -6);
        rule(house, 2, 1, -7);
        rule(house, 3, 2, -2);
        rule(house, 4, 3, -3, 1);
        rule(house, 5, 4, -4);
        rule(house, 6, 4, -5, -4);
        rule(house, 7, 5, 4);
        rule(house, 8, 5);
        rule(house, 9, 6);
        rule(house, 10, 6, -7, -1);
        // Told in a row ahead of its rule is not told with rules.
        house = good("S:C B;B:'b';C:'c';", 3);
        rule(house, 0, 0, -3, -2);
        due("name 1", house.nameSign(1, 0), 'B');
        due("name 2", house.nameSign(2, 0), 'C');
    }

    private static void leftOut() {
        CHECK.about("? the rows a and the empty one");
        GrammarHouse house = good("S:'abc'?;", 3);
        rule(house, 0, 0, -2);
        rule(house, 1, 1, 1, 2, 4);
        rule(house, 2, 1);
        house = good("S:[a-c]?;", 3);
        rule(house, 1, 1, 7);
        rule(house, 2, 1);
        house = good("S:S?;", 3);
        rule(house, 1, 1, -1);
        rule(house, 2, 1);
        house = good("S:('a'|)?;", 5);
        rule(house, 1, 1, 1);
        rule(house, 2, 1);
        rule(house, 3, 2, -2);
        rule(house, 4, 2);
    }

    private static void anyNumber() {
        CHECK.about("* the empty row and X a");
        GrammarHouse house = good("S:'abc'*;", 3);
        rule(house, 0, 0, -2);
        rule(house, 1, 1);
        rule(house, 2, 1, -2, 1, 2, 4);
        house = good("S:(S|'a')*;", 5);
        rule(house, 0, 0, -3);
        rule(house, 3, 2);
        rule(house, 4, 2, -3, -2);
    }

    private static void onceAtLeast() {
        CHECK.about("+ the rows a and X a");
        GrammarHouse house = good("S:'abc'+;", 3);
        rule(house, 0, 0, -2);
        rule(house, 1, 1, 1, 2, 4);
        rule(house, 2, 1, -2, 1, 2, 4);
        house = good("S:S+;", 3);
        rule(house, 1, 1, -1);
        rule(house, 2, 1, -2, -1);
    }

    private static void emptyRows() {
        CHECK.about("row: { part } (any number of times, none too)");
        rule(good("S:;", 1), 0, 0);
        GrammarHouse house = good("S:|'a'|;", 3);
        rule(house, 0, 0);
        rule(house, 1, 0, 1);
        rule(house, 2, 0);
        house = good("S:(|'a');", 3);
        rule(house, 0, 0, -2);
        rule(house, 1, 1);
        rule(house, 2, 1, 1);
        rule(good("S:();", 2), 1, 1);
        bad("S:", 2, 2);
        bad("", 2, 0);
    }

    private static void mostOfAll() {
        CHECK.about("8 NAMES, 20 RULES, 4 PARTS of each stand together");
        StringBuilder tape = new StringBuilder();
        for (char name = 'A'; name <= 'H'; name++) {
            tape.append(name).append(name <= 'D' ? ":AAAA|'abc'H|HHHH;" : ":HGFE|[a-z]EEE;");
        }
        GrammarHouse house = good(tape.toString(), 20);
        due("names", house.sum(1), 8);
        due("rules", house.sum(2), 20);
        due("parts", house.sum(3), 80);
        rule(house, 19, 7, 67108863, -5, -5, -5);
        due("rule(20, 0)", house.rule(20, 0), GrammarHouse.UNKNOWN);
        due("name(8, 0)", house.name(8, 0), GrammarHouse.UNKNOWN);
        Check.put(house, "abcabcab");
        due("items(8) are told", house.items(8) >= 0 ? 1 : 0, 1);
        due("repair()", house.repair(), GrammarHouse.NONE);
        due("a full tape of rules", good("S:" + " ".repeat(217) + "|".repeat(19) + " ;", 20).wipe(), 240);
    }

    private static void partNumbers() {
        CHECK.about("A PART of one is a NAME, or a SET: each letter of a QUOTE is a SET of one, a CLASS a SET of all"
            + " from its first to its second");
        GrammarHouse house = good("A:H A'z'[y-z];B:;C:;D:;E:;F:;G:;H:;", 8);
        rule(house, 0, 0, -8, -1, 33554432, 50331648);
        rule(good("S:'aab';", 1), 0, 0, 1, 1, 2);
        rule(good("S:[b-b][b-d];", 1), 0, 0, 2, 14);
    }

    /** What was begun by a tape with a fault is nothing to the next one. */
    private static void afterFaults() {
        CHECK.about("THE TAPE is read as a GRAMMAR, in place of the one that is: whatever was read ahead, with faults");
        String long1 = "S:'ab'(A S'b'|((A A)|'abc'S))+|A;A:((A|'a')'b'|);";
        String[] good = {"S:;", "S:(S S S(S S S S))|'a';", "S:'ab'?A|A;A:S|(|'b')'aa';"};
        for (int k = 0; k < long1.length(); k++) {
            GrammarHouse used = new GrammarHouse();
            due("a fault of " + long1.substring(0, k), Check.read(used, long1.substring(0, k)) < 0 ? 1 : 0, 1);
            for (String next : good) {
                GrammarHouse fresh = new GrammarHouse();
                due("read() of " + next, Check.read(used, next), Check.read(fresh, next));
                due("digest() of " + next, used.digest(), fresh.digest());
                for (int r = 0; r < fresh.sum(2); r++) {
                    for (int i = 0; i < fresh.rule(r, 1); i++) {
                        due("part(" + r + ", " + i + ") of " + next, used.part(r, i), fresh.part(r, i));
                    }
                }
            }
        }
    }

    private static void oneAfterTheOther() {
        CHECK.about("THE TAPE is read as a GRAMMAR, in place of the one that is: whatever was read ahead, without faults");
        String[] tapes = {"S:'a'|'b'|'c'|S S|;", "S:'a'|'b'N|N;N:N;", "S:S;A:'a';", "S:A|;A:A'a'|S;B:'b'B|'c';C:B A S|C;",
            "S:S S S S|'a'|'abc'?'z';", "A:B;B:C;C:D;D:E;E:F;F:G;G:H;H:'h'A|;", "S:" + "|".repeat(19) + ";", "S:N S|N;N:S;",
            "A:B'b'|N;B:A'a'|;N:N A;"};
        for (String ahead : tapes) {
            for (String next : tapes) {
                GrammarHouse used = Check.houseOf(ahead);
                Check.put(used, "abc");
                used.digest();
                used.pick(0);
                GrammarHouse fresh = Check.houseOf(next);
                due("read() of " + next + " behind " + ahead, Check.read(used, next), fresh.sum(2));
                due("digest()", used.digest(), fresh.digest());
                for (int n = 0; n < fresh.sum(1); n++) {
                    for (int c = 0; c <= 26; c++) {
                        due("table(" + n + ", " + c + ") of " + next, used.table(n, c), fresh.table(n, c));
                    }
                    due("trees(" + n + ", 0, 0) of " + next, used.trees(n, 0, 0), fresh.trees(n, 0, 0));
                }
                Check.put(used, "hab");
                Check.put(fresh, "hab");
                due("repair() of " + next, used.repair(), fresh.repair());
                due("digest() of hab in " + next, used.digest(), fresh.digest());
            }
        }
    }
}

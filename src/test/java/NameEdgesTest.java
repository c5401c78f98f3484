/** The sentences that name a boundary in what "1 Grammars" tells of NAMES, and promises 7 to 14. */
public final class NameEdgesTest {
    private static final Check CHECK = new Check();
    private static final int[] FAR = {Integer.MIN_VALUE, -1000, 1000, Integer.MAX_VALUE};

    private NameEdgesTest() { }

    public static void main(String[] args) {
        sums();
        sumRefusals();
        several();
        nameRules();
        empty();
        ends();
        reached();
        useful();
        usefulRules();
        least();
        circle();
        nameRefusals();
        nameSigns();
        rules();
        parts();
        first();
        follow();
        followEnd();
        followUseless();
        table();
        tableByFollow();
        tableUseless();
        order();
        withoutGrammar();
        CHECK.close();
    }

    private static void due(String call, long got, long want) {
        CHECK.due(call, got, want);
    }

    private static void sums() {
        CHECK.about("0 NAMES that are told; 1 all NAMES; 2 RULES; 3 PARTS of all RULES; 4 LETTERS of THE TEXT");
        GrammarHouse house = Check.houseOf("S:;");
        int[] least = {1, 1, 1, 0, 0, 0, 0};
        for (int what = 0; what < 7; what++) {
            due("sum(" + what + ") of S:;", house.sum(what), least[what]);
        }
        house = Check.houseOf("S:'ab'?A;A:[a-c]|;");
        Check.put(house, "abcdefgh");
        // With a: the rows 'ab' and, as a begins A, the empty one.
        int[] more = {2, 3, 5, 2 + 1 + 0 + 2 + 0, 8, 1, 0};
        for (int what = 0; what < 7; what++) {
            due("sum(" + what + ")", house.sum(what), more[what]);
        }
        house.back(8);
        due("sum(4) of none", house.sum(4), 0);
        due("pick(0)", house.pick(0), 3);
        due("sum(6)", house.sum(6), 3);
        house.put(0);
        due("sum(6) without a tree", house.sum(6), 0);
    }

    private static void sumRefusals() {
        CHECK.about("sum(): OUTSIDE; STATE");
        GrammarHouse house = Check.houseOf("S:;");
        due("sum(7)", house.sum(7), GrammarHouse.OUTSIDE);
        due("sum(-1)", house.sum(-1), GrammarHouse.OUTSIDE);
        for (int what : FAR) {
            due("sum(" + what + ")", house.sum(what), GrammarHouse.OUTSIDE);
            due("sum(" + what + ") without a grammar", new GrammarHouse().sum(what), GrammarHouse.OUTSIDE);
        }
        for (int what = 0; what < 7; what++) {
            due("sum(" + what + ") without a grammar", new GrammarHouse().sum(what), GrammarHouse.STATE);
        }
    }

    private static void several() {
        CHECK.about("5 pairs of a NAME and a LETTER (or THE END) for which THE TABLE has several RULES");
        due("none", Check.houseOf("S:'a'|'b'|;").sum(5), 0);
        due("two of three", Check.houseOf("S:'a'|'b'|'a';").sum(5), 1);
        due("three of three are one pair", Check.houseOf("S:'a'|'a'|'a';").sum(5), 1);
        due("all letters", Check.houseOf("S:[a-z]|[a-z];").sum(5), 26);
        due("all letters and the end", Check.houseOf("S:[a-z]S|[a-z]S||;").sum(5), 27);
        due("the end", Check.houseOf("S:|;").sum(5), 1);
        due("of two names", Check.houseOf("S:A|;A:'a'||;").sum(5), 2);
        due("of a name that is not useful", Check.houseOf("S:;A:'a'|'a'||;").sum(5), 0);
        // a by FOLLOW: A is left out ahead of a.
        due("by what follows", Check.houseOf("S:A'a';A:'a'|;").sum(5), 1);
    }

    private static void nameRules() {
        CHECK.about("0 its first RULE; 1 how many RULES");
        GrammarHouse house = Check.houseOf("S:A|B||'x';A:'a';B:'b'?|'c';");
        int[][] due = {{0, 4}, {4, 1}, {5, 2}, {7, 2}};
        for (int n = 0; n < due.length; n++) {
            due("name(" + n + ", 0)", house.name(n, 0), due[n][0]);
            due("name(" + n + ", 1)", house.name(n, 1), due[n][1]);
        }
        house = Check.houseOf("S:" + "|".repeat(18) + ";A:;");
        due("19 rules", house.name(0, 1), 19);
        due("the last one", house.name(1, 0), 19);
    }

    private static void empty() {
        CHECK.about("it is EMPTY, if it makes the empty row");
        GrammarHouse house = Check.houseOf("S:A A A A;A:B|'a';B:|B;C:A'a';D:'a'*;E:'a'+;");
        int[] due = {1, 1, 1, 0, 1, 0, 1, 0};
        for (int n = 0; n < due.length; n++) {
            due("name(" + n + ", 2)", house.name(n, 2), due[n]);
        }
        // The longest way: it comes to the first name last.
        house = Check.houseOf("A:BB;B:CC;C:DD;D:EE;E:FF;F:GG;G:HH;H:;");
        for (int n = 0; n < 8; n++) {
            due("name(" + n + ", 2) in a row", house.name(n, 2), 1);
        }
        house = Check.houseOf("A:;B:AA;C:BB;D:CC;E:DD;F:EE;G:FF;H:GG|'a';");
        due("name(7, 2) in a row", house.name(7, 2), 1);
    }

    private static void ends() {
        CHECK.about("it ENDS, if it makes any");
        GrammarHouse house = Check.houseOf("S:S;A:S|B;B:'b'B|'c';C:C|D;D:C;E:'a'S;");
        int[] due = {0, 1, 1, 0, 0, 0};
        for (int n = 0; n < due.length; n++) {
            due("name(" + n + ", 3)", house.name(n, 3), due[n]);
        }
        house = Check.houseOf("A:B;B:C;C:D;D:E;E:F;F:G;G:H;H:'a';");
        for (int n = 0; n < 8; n++) {
            due("name(" + n + ", 3) in a row", house.name(n, 3), 1);
        }
        house = Check.houseOf("A:B;B:C;C:D;D:E;E:F;F:G;G:H;H:A;");
        for (int n = 0; n < 8; n++) {
            due("name(" + n + ", 3) in a ring", house.name(n, 3), 0);
        }
    }

    private static void reached() {
        CHECK.about("it is REACHED, if STEPS from NAME 0 lead to a row in which it is (NAME 0 always is)");
        due("alone", Check.houseOf("S:'a';").name(0, 4), 1);
        due("without an end", Check.houseOf("S:S;").name(0, 4), 1);
        due("of no other one", Check.houseOf("S:;A:S;").name(0, 4), 1);
        // B by a rule that is not useful; C by B; D from D alone; E leads to S.
        GrammarHouse house = Check.houseOf("S:'a'|A B;A:A;B:'b'C;C:;D:D;E:S;");
        int[] due = {1, 1, 1, 1, 0, 0};
        for (int n = 0; n < due.length; n++) {
            due("name(" + n + ", 4)", house.name(n, 4), due[n]);
        }
        house = Check.houseOf("A:B;H:;G:H;F:G;E:F;D:E;C:D;B:C;");
        for (int n = 0; n < 8; n++) {
            due("name(" + n + ", 4) in a row", house.name(n, 4), 1);
        }
    }

    private static void useful() {
        CHECK.about("if it ENDS, and STEPS by USEFUL RULES from NAME 0 lead to a row in which it is"
            + " (NAME 0 itself, if it ENDS)");
        due("alone", Check.houseOf("S:'a';").name(0, 5), 1);
        due("without an end", Check.houseOf("S:S;").name(0, 5), 0);
        due("of no other one", Check.houseOf("S:;A:S;").name(0, 5), 1);
        due("that is not reached", Check.houseOf("S:;A:S;").name(1, 5), 0);
        // Where NAME 0 does not end nothing is: A ends and is reached.
        GrammarHouse house = Check.houseOf("S:A S|S A;A:'a';");
        due("name(0, 5)", house.name(0, 5), 0);
        due("name(1, 3)", house.name(1, 3), 1);
        due("name(1, 4)", house.name(1, 4), 1);
        due("name(1, 5)", house.name(1, 5), 0);
    }

    private static void usefulRules() {
        CHECK.about("A RULE is USEFUL, if all NAMES among its PARTS END");
        // B stands beside N, which does not end, and C beside it in one of two rules.
        GrammarHouse house = Check.houseOf("S:'a'|B N|N C|C C;B:'b';C:'c';N:N;");
        int[] due = {1, 0, 1, 0};
        for (int n = 0; n < due.length; n++) {
            due("name(" + n + ", 5)", house.name(n, 5), due[n]);
        }
        due("table(0, b)", house.table(0, 1), GrammarHouse.NONE);
        due("table(0, c)", house.table(0, 2), 3);
        due("next(0)", house.next(0), Check.bits("ac"));
    }

    private static void least() {
        CHECK.about("6 its LEAST, NONE");
        GrammarHouse house = Check.houseOf("S:A'a'|B'bb';A:'abc'|A;B:|'b';C:C;D:C|'abc''d';");
        int[] due = {2, 3, 0, -1, 4};
        for (int n = 0; n < due.length; n++) {
            due("name(" + n + ", 6)", house.name(n, 6), due[n]);
        }
        house = Check.houseOf("A:BBBB;B:CCCC;C:DDDD;D:EEEE;E:FFFF;F:GGGG;G:HHHH;H:'abc'[a-z];");
        for (int n = 0; n < 8; n++) {
            due("name(" + n + ", 6) of the greatest", house.name(n, 6), 1 << 2 * (8 - n));
        }
    }

    private static void circle() {
        CHECK.about("7 one STEP or more, in each of which one PART is gone on with, and all others are EMPTY NAMES");
        String[] in = {"S:S;", "S:S S|;", "S:A S A;A:;", "S:S|'a';", "S:A;A:S;", "S:A A A S;A:|'a';", "S:S'a'|S;"};
        String[] out = {"S:;", "S:'a';", "S:S'a'|'a';", "S:'a'S;", "S:A;A:'a';", "S:S S;", "S:A S;A:'a';", "S:A S|;A:A;"};
        for (String tape : in) {
            due("name(0, 7) of " + tape, Check.houseOf(tape).name(0, 7), 1);
        }
        for (String tape : out) {
            due("name(0, 7) of " + tape, Check.houseOf(tape).name(0, 7), 0);
        }
        GrammarHouse ring = Check.houseOf("A:H;B:A;C:B;D:C;E:D;F:E;G:F;H:G;");
        GrammarHouse row = Check.houseOf("A:B;B:C;C:D;D:E;E:F;F:G;G:H;H:'h';");
        GrammarHouse tail = Check.houseOf("A:B;B:C;C:D;D:C;");
        for (int n = 0; n < 8; n++) {
            due("name(" + n + ", 7) in a ring", ring.name(n, 7), 1);
            due("name(" + n + ", 7) in a row", row.name(n, 7), 0);
            due("name(" + n % 4 + ", 7) with a tail", tail.name(n % 4, 7), n % 4 / 2);
        }
    }

    private static void nameRefusals() {
        CHECK.about("name(): UNKNOWN; OUTSIDE; STATE");
        GrammarHouse house = Check.houseOf("S:'a'?;");
        CHECK.refused(house, "name(2, 0)", h -> h.name(2, 0), GrammarHouse.UNKNOWN);
        CHECK.refused(house, "name(-1, 0)", h -> h.name(-1, 0), GrammarHouse.UNKNOWN);
        CHECK.refused(house, "name(0, 8)", h -> h.name(0, 8), GrammarHouse.OUTSIDE);
        CHECK.refused(house, "name(0, -1)", h -> h.name(0, -1), GrammarHouse.OUTSIDE);
        CHECK.refused(house, "name(2, 8)", h -> h.name(2, 8), GrammarHouse.UNKNOWN);
        due("name(1, 7)", house.name(1, 7), 0);
        for (int far : FAR) {
            due("name(" + far + ", 0)", house.name(far, 0), GrammarHouse.UNKNOWN);
            due("name(0, " + far + ")", house.name(0, far), GrammarHouse.OUTSIDE);
            due("name(" + far + ", " + far + ")", house.name(far, far), GrammarHouse.UNKNOWN);
        }
        // 8 NAMES: the last one is 7.
        GrammarHouse eight = Check.houseOf("A:;B:;C:;D:;E:;F:;G:;H:;");
        due("name(7, 0)", eight.name(7, 0), 7);
        due("name(8, 0)", eight.name(8, 0), GrammarHouse.UNKNOWN);
    }

    private static void nameSigns() {
        CHECK.about("The SIGN k of a NAME as it was told; NONE behind them, and of a made one");
        GrammarHouse house = Check.houseOf("S:A0 Z99 'b'?;A0:;Z99:;");
        int[][] due = {{'S', -1, -1, -1}, {'A', '0', -1, -1}, {'Z', '9', '9', -1}, {-1, -1, -1, -1}};
        for (int n = 0; n < 4; n++) {
            for (int k = 0; k < 4; k++) {
                due("nameSign(" + n + ", " + k + ")", house.nameSign(n, k), due[n][k]);
            }
            for (int far : new int[] {4, 8, 9, 31, 32, 64, Integer.MAX_VALUE}) {
                due("nameSign(" + n + ", " + far + ")", house.nameSign(n, far), GrammarHouse.NONE);
            }
            int of = n;
            CHECK.refused(house, "nameSign(" + n + ", -1)", h -> h.nameSign(of, -1), GrammarHouse.OUTSIDE);
            due("nameSign(" + n + ", least)", house.nameSign(n, Integer.MIN_VALUE), GrammarHouse.OUTSIDE);
        }
        CHECK.refused(house, "nameSign(4, 0)", h -> h.nameSign(4, 0), GrammarHouse.UNKNOWN);
        CHECK.refused(house, "nameSign(-1, 0)", h -> h.nameSign(-1, 0), GrammarHouse.UNKNOWN);
        due("nameSign(4, -1)", house.nameSign(4, -1), GrammarHouse.UNKNOWN);
    }

    private static void rules() {
        CHECK.about("rule(): 0 its NAME; 1 how many PARTS. UNKNOWN; OUTSIDE; STATE");
        GrammarHouse house = Check.houseOf("S:|'abc'S;A:'a';");
        int[][] due = {{0, 0}, {0, 4}, {1, 1}};
        for (int r = 0; r < 3; r++) {
            due("rule(" + r + ", 0)", house.rule(r, 0), due[r][0]);
            due("rule(" + r + ", 1)", house.rule(r, 1), due[r][1]);
        }
        CHECK.refused(house, "rule(3, 0)", h -> h.rule(3, 0), GrammarHouse.UNKNOWN);
        CHECK.refused(house, "rule(-1, 0)", h -> h.rule(-1, 0), GrammarHouse.UNKNOWN);
        CHECK.refused(house, "rule(0, 2)", h -> h.rule(0, 2), GrammarHouse.OUTSIDE);
        CHECK.refused(house, "rule(0, -1)", h -> h.rule(0, -1), GrammarHouse.OUTSIDE);
        CHECK.refused(house, "rule(3, 2)", h -> h.rule(3, 2), GrammarHouse.UNKNOWN);
        for (int far : FAR) {
            due("rule(" + far + ", 0)", house.rule(far, 0), GrammarHouse.UNKNOWN);
            due("rule(0, " + far + ")", house.rule(0, far), GrammarHouse.OUTSIDE);
        }
        GrammarHouse twenty = Check.houseOf("S:" + "|".repeat(19) + ";");
        due("rule(19, 0)", twenty.rule(19, 0), 0);
        due("rule(20, 0)", twenty.rule(20, 0), GrammarHouse.UNKNOWN);
    }

    private static void parts() {
        CHECK.about("a NAME as -1 less its number, a SET as its bits. UNKNOWN; STATE");
        GrammarHouse house = Check.houseOf("S:S A'a'[x-z]|;A:;");
        int[] due = {-1, -2, 1, 7 << 23};
        for (int i = 0; i < 4; i++) {
            due("part(0, " + i + ")", house.part(0, i), due[i]);
        }
        CHECK.refused(house, "part(0, 4)", h -> h.part(0, 4), GrammarHouse.UNKNOWN);
        CHECK.refused(house, "part(0, -1)", h -> h.part(0, -1), GrammarHouse.UNKNOWN);
        CHECK.refused(house, "part(1, 0)", h -> h.part(1, 0), GrammarHouse.UNKNOWN);
        CHECK.refused(house, "part(2, 0)", h -> h.part(2, 0), GrammarHouse.UNKNOWN);
        CHECK.refused(house, "part(3, 0)", h -> h.part(3, 0), GrammarHouse.UNKNOWN);
        CHECK.refused(house, "part(-1, 0)", h -> h.part(-1, 0), GrammarHouse.UNKNOWN);
        for (int far : FAR) {
            due("part(" + far + ", 0)", house.part(far, 0), GrammarHouse.UNKNOWN);
            due("part(0, " + far + ")", house.part(0, far), GrammarHouse.UNKNOWN);
        }
    }

    private static void first() {
        CHECK.about("FIRST of a NAME: the LETTERS with which what it makes begins. UNKNOWN; STATE");
        GrammarHouse house = Check.houseOf("S:A A'z';A:'a'|;B:;C:'c'C;D:[a-z]|;E:C|'e';F:F'f'|'g';G:B F|B B B A;");
        String[] due = {"az", "a", "", "", "abcdefghijklmnopqrstuvwxyz", "e", "g", "ga"};
        for (int n = 0; n < 8; n++) {
            due("first(" + n + ")", house.first(n), Check.bits(due[n]));
        }
        // The end is never in it.
        due("first() of the empty row", Check.houseOf("S:;").first(0), 0);
        CHECK.refused(house, "first(8)", h -> h.first(8), GrammarHouse.UNKNOWN);
        CHECK.refused(house, "first(-1)", h -> h.first(-1), GrammarHouse.UNKNOWN);
        for (int far : FAR) {
            due("first(" + far + ")", house.first(far), GrammarHouse.UNKNOWN);
        }
        house = Check.houseOf("A:B;B:C;C:D;D:E;E:F;F:G;G:H;H:'h';");
        due("first(0) at the end of a row", house.first(0), Check.bits("h"));
    }

    private static void follow() {
        CHECK.about("FOLLOW of a NAME: the LETTERS that stand right behind what it makes. UNKNOWN; STATE");
        GrammarHouse house = Check.houseOf("S:A B C'd'|A;A:'a';B:'b'|;C:'c'*;");
        String[] due = {"$", "bcd$", "cd", "d", "cd"};
        for (int n = 0; n < due.length; n++) {
            due("follow(" + n + ")", house.follow(n), Check.bits(due[n]));
        }
        CHECK.refused(house, "follow(5)", h -> h.follow(5), GrammarHouse.UNKNOWN);
        CHECK.refused(house, "follow(-1)", h -> h.follow(-1), GrammarHouse.UNKNOWN);
        for (int far : FAR) {
            due("follow(" + far + ")", house.follow(far), GrammarHouse.UNKNOWN);
        }
        house = Check.houseOf("A:B'a';B:C;C:D;D:E;E:F;F:G;G:H;H:'h';");
        due("follow(7) at the end of a row", house.follow(7), Check.bits("a"));
        due("all letters", Check.houseOf("S:A[a-z]|A;A:;").follow(1), (1 << 27) - 1);
    }

    private static void followEnd() {
        CHECK.about("and THE END, if it can stand at the end of these");
        due("NAME 0", Check.houseOf("S:;").follow(0), 67108864);
        due("ahead of what may be empty", Check.houseOf("S:A B;A:'a';B:'b'|;").follow(1), Check.bits("b$"));
        due("ahead of what is not", Check.houseOf("S:A B;A:'a';B:'b';").follow(1), Check.bits("b"));
        due("NAME 0 within", Check.houseOf("S:'a'S'b'|;").follow(0), Check.bits("b$"));
    }

    private static void followUseless() {
        CHECK.about("none, if it is not USEFUL; by USEFUL RULES");
        GrammarHouse house = Check.houseOf("S:A|A N'x'|N A'y';A:'a';N:N'z';B:A'w';");
        due("what stands behind by useful rules alone", house.follow(1), Check.bits("$"));
        due("N does not end", house.follow(2), 0);
        due("B is not reached", house.follow(3), 0);
        due("NAME 0 does not end", Check.houseOf("S:S'a';").follow(0), 0);
        due("nor what it has", Check.houseOf("S:A S;A:'a';").follow(1), 0);
    }

    private static void table() {
        CHECK.about("The one RULE (26: THE END); NONE: none; -2: several. UNKNOWN; OUTSIDE; STATE");
        GrammarHouse house = Check.houseOf("S:'a'|[a-b]|'z'|;");
        due("table(0, 0)", house.table(0, 0), -2);
        due("table(0, 1)", house.table(0, 1), 1);
        due("table(0, 2)", house.table(0, 2), GrammarHouse.NONE);
        due("table(0, 25)", house.table(0, 25), 2);
        due("table(0, 26)", house.table(0, 26), 3);
        CHECK.refused(house, "table(0, 27)", h -> h.table(0, 27), GrammarHouse.OUTSIDE);
        CHECK.refused(house, "table(0, -1)", h -> h.table(0, -1), GrammarHouse.OUTSIDE);
        CHECK.refused(house, "table(1, 0)", h -> h.table(1, 0), GrammarHouse.UNKNOWN);
        CHECK.refused(house, "table(-1, 0)", h -> h.table(-1, 0), GrammarHouse.UNKNOWN);
        due("table(1, 27)", house.table(1, 27), GrammarHouse.UNKNOWN);
        for (int far : FAR) {
            due("table(" + far + ", 0)", house.table(far, 0), GrammarHouse.UNKNOWN);
            due("table(0, " + far + ")", house.table(0, far), GrammarHouse.OUTSIDE);
        }
        house = Check.houseOf("S:'b'|'c';");
        due("table(0, 26) without the empty row", house.table(0, 26), GrammarHouse.NONE);
        due("table(0, b): rule 0", house.table(0, 1), 0);
    }

    private static void tableByFollow() {
        CHECK.about("or the empty one, if the LETTER is in FOLLOW of the NAME");
        // A 2: 'a'; A 3: empty; A 4: B; B 5: empty; B 6: 'b'.
        GrammarHouse house = Check.houseOf("S:A'x'|'y'A;A:'a'||B;B:|'b';");
        due("table(1, a)", house.table(1, 0), 2);
        due("table(1, b)", house.table(1, 1), 4);
        due("table(1, x)", house.table(1, 23), -2);
        due("table(1, the end)", house.table(1, 26), -2);
        due("table(1, y)", house.table(1, 24), GrammarHouse.NONE);
        due("table(2, x)", house.table(2, 23), 5);
        due("table(2, the end)", house.table(2, 26), 5);
        due("table(0, the end)", house.table(0, 26), GrammarHouse.NONE);
        due("table(0, x)", house.table(0, 23), 0);
    }

    private static void tableUseless() {
        CHECK.about("THE TABLE has for a NAME that is USEFUL, those of its USEFUL RULES");
        GrammarHouse house = Check.houseOf("S:'a'|'a'N|N;N:N|'n'N;B:'b'|;");
        due("table(0, a)", house.table(0, 0), 0);
        due("table(1, n)", house.table(1, 13), GrammarHouse.NONE);
        due("table(2, b)", house.table(2, 1), GrammarHouse.NONE);
        due("table(2, the end)", house.table(2, 26), GrammarHouse.NONE);
        due("sum(5)", house.sum(5), 0);
        due("where NAME 0 does not end", Check.houseOf("S:A S;A:'a';").table(1, 0), GrammarHouse.NONE);
    }

    private static void order() {
        CHECK.about("UNKNOWN, OUTSIDE, STATE, FULL; of several the first in this order");
        GrammarHouse house = Check.houseOf("S:'a';");
        due("name(1, 8)", house.name(1, 8), GrammarHouse.UNKNOWN);
        due("nameSign(1, -1)", house.nameSign(1, -1), GrammarHouse.UNKNOWN);
        due("rule(1, 2)", house.rule(1, 2), GrammarHouse.UNKNOWN);
        due("table(1, 27)", house.table(1, 27), GrammarHouse.UNKNOWN);
    }

    private static void withoutGrammar() {
        CHECK.about("without a GRAMMAR nothing is UNKNOWN but by sign(); OUTSIDE ahead of STATE");
        GrammarHouse house = new GrammarHouse();
        Check.read(house, "S:#");
        for (int n : new int[] {Integer.MIN_VALUE, -1, 0, 8, Integer.MAX_VALUE}) {
            due("name(" + n + ", 7)", house.name(n, 7), GrammarHouse.STATE);
            due("name(" + n + ", 8)", house.name(n, 8), GrammarHouse.OUTSIDE);
            due("name(" + n + ", -1)", house.name(n, -1), GrammarHouse.OUTSIDE);
            due("nameSign(" + n + ", 9)", house.nameSign(n, 9), GrammarHouse.STATE);
            due("nameSign(" + n + ", -1)", house.nameSign(n, -1), GrammarHouse.OUTSIDE);
            due("rule(" + n + ", 1)", house.rule(n, 1), GrammarHouse.STATE);
            due("rule(" + n + ", 2)", house.rule(n, 2), GrammarHouse.OUTSIDE);
            due("rule(" + n + ", -1)", house.rule(n, -1), GrammarHouse.OUTSIDE);
            due("part(" + n + ", " + n + ")", house.part(n, n), GrammarHouse.STATE);
            due("first(" + n + ")", house.first(n), GrammarHouse.STATE);
            due("follow(" + n + ")", house.follow(n), GrammarHouse.STATE);
            due("table(" + n + ", 26)", house.table(n, 26), GrammarHouse.STATE);
            due("table(" + n + ", 27)", house.table(n, 27), GrammarHouse.OUTSIDE);
            due("table(" + n + ", -1)", house.table(n, -1), GrammarHouse.OUTSIDE);
            due("sign(" + n + ")", house.sign(n), n == 0 ? 'S' : GrammarHouse.UNKNOWN);
        }
    }
}

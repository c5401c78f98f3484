/** Promises 1 to 6: a new object, type, wipe, sign, read, fault. */
public final class TapeTest {
    private static final Check CHECK = new Check();

    private TapeTest() { }

    public static void main(String[] args) {
        newObject();
        type();
        wipe();
        sign();
        read();
        readKeepsOnFault();
        fault();
        tokens();
        standing();
        limits();
        toldTwice();
        withoutRules();
        order();
        CHECK.close();
    }

    private static void due(String call, long got, long want) {
        CHECK.due(call, got, want);
    }

    private static void newObject() {
        GrammarHouse house = new GrammarHouse();
        due("1: wipe()", house.wipe(), 0);
        due("1: sign(0)", house.sign(0), GrammarHouse.UNKNOWN);
        due("1: sum(2)", house.sum(2), GrammarHouse.STATE);
        due("1: back(1)", house.back(1), GrammarHouse.OUTSIDE);
        due("1: digest()", house.digest(), ((17L * 31) * 31) * 31 - 1);
        due("1: NONE", GrammarHouse.NONE, -1);
        due("1: UNKNOWN", GrammarHouse.UNKNOWN, -1001);
        due("1: OUTSIDE", GrammarHouse.OUTSIDE, -1002);
        due("1: STATE", GrammarHouse.STATE, -1003);
        due("1: FULL", GrammarHouse.FULL, -1004);
    }

    private static void type() {
        GrammarHouse house = new GrammarHouse();
        due("2: nothing", house.type(0, 0, 0, 0, 0), 0);
        due("2: lowest byte first", house.type('a' | 'b' << 8 | 'c' << 16 | 'd' << 24, 0, 0, 0, 0), 4);
        for (int k = 0; k < 4; k++) {
            due("2: sign " + k, house.sign(k), 'a' + k);
        }
        due("2: 0 is passed by", house.type('e' << 8, 0, 'f' << 24 | 'g', 0, 'h' << 16), 8);
        due("2: sign 4", house.sign(4), 'e');
        due("2: sign 5", house.sign(5), 'g');
        due("2: sign 6", house.sign(6), 'f');
        due("2: sign 7", house.sign(7), 'h');
        for (int none : new int[] {1, 31, 127, 128, 255}) {
            due("2: no sign " + none, house.type('x', 'x', 'x', 'x', none << 24), GrammarHouse.OUTSIDE);
            due("2: no sign ahead " + none, house.type(none, 'x', 0, 0, 0), GrammarHouse.OUTSIDE);
        }
        due("2: -1", house.type(0, 0, -1, 0, 0), GrammarHouse.OUTSIDE);
        due("2: nothing has changed", house.type(0, 0, 0, 0, 0), 8);
        due("2: the least and the greatest sign", house.type(32 | 126 << 8, 0, 0, 0, 0), 10);
        due("2: sign 8", house.sign(8), 32);
        due("2: sign 9", house.sign(9), 126);
        due("2: up to 230", Check.type(house, "x".repeat(220)), 230);
        due("2: full", house.type(0x20202020, 0x20202020, 0x202020, 0, 0), GrammarHouse.FULL);
        due("2: outside ahead of full", house.type(0x20202020, 0x20202020, 0x202020, 0, 1), GrammarHouse.OUTSIDE);
        due("2: up to 240", house.type(0x20202020, 0x20202020, 0x2020, 0, 0), 240);
        due("2: nothing more", house.type(0, 0, 0, 0, 0), 240);
        due("2: one more", house.type(0, 0, 0, 0, 'x'), GrammarHouse.FULL);
        due("2: still 240", house.wipe(), 240);
        Check.type(house, "x".repeat(239));
        due("2: 0 takes no room", house.type(0, 'a' << 8, 0, 0, 0), 240);
    }

    private static void wipe() {
        GrammarHouse house = Check.houseOf("S:'a';");
        house.put(0);
        due("3: wipe()", house.wipe(), 6);
        due("3: again", house.wipe(), 0);
        due("3: the grammar stays", house.sum(2), 1);
        due("3: the text stays", house.sum(4), 1);
        due("3: sign(0)", house.sign(0), GrammarHouse.UNKNOWN);
        Check.read(house, "S:'");
        house.wipe();
        due("3: the fault stays", house.fault(0), 1);
    }

    private static void sign() {
        GrammarHouse house = new GrammarHouse();
        Check.type(house, "S : x~");
        due("4: sign(0)", house.sign(0), 'S');
        due("4: sign(1)", house.sign(1), ' ');
        due("4: sign(5)", house.sign(5), '~');
        due("4: sign(6)", house.sign(6), GrammarHouse.UNKNOWN);
        due("4: sign(-1)", house.sign(-1), GrammarHouse.UNKNOWN);
        due("4: sign(240)", house.sign(240), GrammarHouse.UNKNOWN);
        due("4: sign(least)", house.sign(Integer.MIN_VALUE), GrammarHouse.UNKNOWN);
        due("4: sign(most)", house.sign(Integer.MAX_VALUE), GrammarHouse.UNKNOWN);
    }

    private static void read() {
        GrammarHouse house = new GrammarHouse();
        due("5: rules", Check.read(house, " S1 : A '' ;"), -11);
        due("5: rules", Check.read(house, " S1 :A'ab'|  ;A:[b-d] S1 | 'xyz' ; "), 4);
        house.put(0);
        house.back(1);
        due("5: pick ahead", house.pick(0), 1);
        due("5: read again", house.read(), 4);
        due("5: no tree is picked", house.step(0), GrammarHouse.STATE);
        Check.put(house, "abc");
        due("5: the tape stays", house.read(), 4);
        due("5: the text is empty", house.sum(4), 0);
        due("5: part(0, 0)", house.part(0, 0), -2);
        due("5: part(0, 1)", house.part(0, 1), 1);
        due("5: part(0, 2)", house.part(0, 2), 2);
        due("5: rule(1, 1)", house.rule(1, 1), 0);
        due("5: part(2, 0)", house.part(2, 0), 2 + 4 + 8);
        due("5: part(2, 1)", house.part(2, 1), -1);
        due("5: part(3, 2)", house.part(3, 2), 1 << 25);
        // Made names stand behind all told ones, as the tokens stand that make them.
        due("5: made ones", Check.read(house, "S:('a'B|'b')+ 'bc'?;B:('x')*;"), 11);
        due("5: told", house.sum(0), 2);
        due("5: names", house.sum(1), 7);
        due("5: S is +, ?", house.part(0, 0), -1 - 3);
        due("5: S is +, ?", house.part(0, 1), -1 - 4);
        due("5: S has two parts", house.rule(0, 1), 2);
        due("5: B is *", house.part(1, 0), -1 - 6);
        due("5: the group", house.name(2, 0), 2);
        due("5: its first row", house.part(2, 1), -2);
        due("5: + a", house.part(4, 0), -1 - 2);
        due("5: + X", house.part(5, 0), -1 - 3);
        due("5: + X a", house.part(5, 1), -1 - 2);
        due("5: ? a", house.rule(6, 1), 2);
        due("5: ? a b", house.part(6, 1), 4);
        due("5: ? empty", house.rule(7, 1), 0);
        due("5: second group", house.part(8, 0), 1 << 23);
        due("5: * empty", house.rule(9, 1), 0);
        due("5: * X", house.part(10, 0), -1 - 6);
        due("5: * X a", house.part(10, 1), -1 - 5);
        due("5: no more", house.rule(11, 0), GrammarHouse.UNKNOWN);
    }

    private static void readKeepsOnFault() {
        GrammarHouse house = Check.houseOf("S:'a'S|'a';");
        Check.put(house, "aa");
        due("5: pick", house.pick(0), 4);
        due("5: fault", Check.read(house, "S:'b'"), -12);
        due("5: the grammar stays", house.sum(2), 2);
        due("5: its rules stay", house.part(1, 0), 1);
        due("5: the text stays", house.sum(4), 2);
        due("5: the tree stays", house.step(0), 0);
        due("5: accepts stays", house.accepts(2), 1);
        due("5: fault(0)", house.fault(0), 2);
        due("5: fault(1)", house.fault(1), 5);
    }

    private static void fault() {
        GrammarHouse house = new GrammarHouse();
        due("6: fault(0) ahead", house.fault(0), 0);
        due("6: fault(1) ahead", house.fault(1), -1);
        due("6: fault(2)", house.fault(2), GrammarHouse.OUTSIDE);
        due("6: fault(-1)", house.fault(-1), GrammarHouse.OUTSIDE);
        house.read();
        due("6: an empty tape", house.fault(0), 2);
        due("6: its end", house.fault(1), 0);
        Check.read(house, "S:;");
        due("6: none", house.fault(0), 0);
        due("6: no place", house.fault(1), -1);
    }

    /** A tape whose first fault is due, of a kind and at a place. */
    private static void bad(String tape, int kind, int place) {
        GrammarHouse house = new GrammarHouse();
        due("5: read() of " + tape, Check.read(house, tape), -10 - kind);
        due("6: fault(0) of " + tape, house.fault(0), kind);
        due("6: fault(1) of " + tape, house.fault(1), place);
    }

    private static void good(String tape, int rules) {
        due("5: read() of " + tape, Check.read(new GrammarHouse(), tape), rules);
    }

    private static void tokens() {
        bad("A123:;", 1, 0);
        bad("  A1:B001;", 1, 5);
        bad("S:'';", 1, 2);
        bad("S:'abcd';", 1, 2);
        bad("S:'a", 1, 2);
        bad("S:'a b';", 1, 2);
        bad("S:'A';", 1, 2);
        bad("S: a;", 1, 3);
        bad("S:1;", 1, 2);
        bad("S:[b-a];", 1, 2);
        bad("S:[a-b;", 1, 2);
        bad("S:[a -b];", 1, 2);
        bad("S:[a-", 1, 2);
        bad("S:[a-B];", 1, 2);
        bad("S 1:;", 1, 2);
        bad("S:;#", 1, 3);
        bad("S:-;", 1, 2);
        good("S:[a-a][a-z];", 1);
        good("S:'a''abc';", 1);
        good("S:;", 1);
        good("S12:S12;", 1);
        good("A1:A01|A1;A01:A;A:;", 4);
    }

    private static void standing() {
        bad("", 2, 0);
        bad("   ", 2, 3);
        bad("S", 2, 1);
        bad("S ", 2, 2);
        bad("S;", 2, 1);
        bad("S:", 2, 2);
        bad("S:'a' ", 2, 6);
        bad(":", 2, 0);
        bad("'a'", 2, 0);
        bad("S:;;", 2, 3);
        bad("S:A:;", 2, 3);
        bad("S:);", 2, 2);
        bad("S:(;", 2, 3);
        bad("S:?;", 2, 2);
        bad("S:'a'**;", 2, 6);
        bad("S:'a'|+;", 2, 6);
        bad("S:(+);", 2, 3);
        bad("S::;", 2, 2);
        bad("S:;'a'", 2, 3);
        good("S:('a')*;", 4);
        good("S:()|(|);", 5);
        good("S : ;", 1);
    }

    private static void limits() {
        good("A:;B:;C:;D:;E:;F:;G:;H:;", 8);
        bad("A:;B:;C:;D:;E:;F:;G:;H:;I:;", 3, 24);
        bad("A:;B:;C:;D:;E:;F:;G:;H:();", 3, 24);
        bad("A:;B:;C:;D:;E:;F:;G:;H:'a'?;", 3, 26);
        bad("A:'a'?;B:;C:;D:;E:;F:;G:;H:;", 3, 25);
        good("A:'a'?;B:;C:;D:;E:;F:;G:;", 9);
        bad("S:'a'?'b'?'c'?'d'?|'e'?'f'?'g'?'h'?;", 3, 34);
        good("S:" + "|".repeat(19) + ";", 20);
        bad("S:" + "|".repeat(20) + ";", 3, 22);
        bad("S:" + "|".repeat(22) + ";", 3, 22);
        good("S:" + "|".repeat(17) + "'a'?;", 20);
        bad("S:" + "|".repeat(18) + "'a'?;", 3, 24);
        bad("S:" + "|".repeat(19) + "'a'*;", 3, 24);
        good("S:" + "|".repeat(18) + "();", 20);
        bad("S:" + "|".repeat(19) + "();", 3, 23);
        bad("S:" + "|".repeat(20) + "(", 2, 23);
        bad("S:" + "|".repeat(20) + "();", 3, 23);
        good("S:S S S S;", 1);
        good("S:S S S S?;", 3);
        bad("S:S S S S S;", 3, 10);
        bad("S:'abc''de';", 3, 7);
        bad("S:'abc''de'?;", 3, 7);
        good("S:'abc''d';", 1);
        bad("S:'abc'S[a-b];", 3, 8);
        good("S:'abc'*'a''bc';", 3);
        bad("S:'abc'*'ab''bc';", 3, 12);
        good("S:'abc'('d');", 2);
        bad("S:'abc'S('d');", 3, 12);
        bad("S:'abc'S()?;", 3, 9);
        bad("S:'abc'S(S 'ab' 'cd');", 3, 16);
        good("S:((('a')));", 4);
        bad("S:(((( ", 3, 5);
        good("S:(((S S S S)S S S)S S S)S S S;", 4);
        good("S:" + "|".repeat(19) + "S S S S;", 20);
        good("S:((()))(());", 6);
    }

    private static void toldTwice() {
        bad("S:;S:;", 4, 3);
        bad("A:;A1:;A01:;A1:;", 4, 12);
        bad("S:A;A:; S:;", 4, 8);
        bad("A:;B:;C:;D:;E:;F:;G:;H:;A:;", 4, 24);
    }

    private static void withoutRules() {
        bad("S:A;", 5, 2);
        bad("S:S'a'(B|A)*;A:;", 5, 7);
        bad("S:'a'|A1;A:A01;", 5, 6);
        bad("S:C?B;C:;", 5, 4);
        good("S:A;A:;", 2);
    }

    private static void order() {
        bad("S:A;S:;", 4, 4);
        bad("S:A;S:;#", 4, 4);
        bad("S:A;B:#;", 1, 6);
        bad("S:;'abcd'", 1, 3);
        bad("S:;(", 2, 3);
        bad("S:S S S S S;S", 3, 10);
        bad("S:S S S S S?;", 3, 10);
    }
}

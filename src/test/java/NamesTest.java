/** Promises 7 to 14: sum, name, nameSign, rule, part, first, follow, table. */
public final class NamesTest {
    private static final Check CHECK = new Check();

    private NamesTest() { }

    public static void main(String[] args) {
        sum();
        nameRules();
        emptyEndsReachedUseful();
        least();
        circle();
        nameSign();
        ruleAndPart();
        first();
        follow();
        table();
        refusals();
        withoutGrammar();
        CHECK.close();
    }

    private static void due(String call, long got, long want) {
        CHECK.due(call, got, want);
    }

    private static void sum() {
        GrammarHouse house = Check.houseOf("S:A'b'?|'abc';A:'a'|'a'A|;");
        due("7: told", house.sum(0), 2);
        due("7: all names", house.sum(1), 3);
        due("7: rules", house.sum(2), 7);
        due("7: parts", house.sum(3), 2 + 3 + 1 + 2 + 0 + 1 + 0);
        due("7: letters", house.sum(4), 0);
        // S with a: both; A with a: both.
        due("7: several", house.sum(5), 2);
        due("7: steps", house.sum(6), 0);
        Check.put(house, "aab");
        due("7: letters", house.sum(4), 3);
        due("7: pick", house.pick(0), 7);
        due("7: steps", house.sum(6), 7);
        due("7: sum(7)", house.sum(7), GrammarHouse.OUTSIDE);
        due("7: sum(-1)", house.sum(-1), GrammarHouse.OUTSIDE);
        // With the end: two empty rows.
        due("7: several at the end", Check.houseOf("S:|;").sum(5), 1);
    }

    private static void nameRules() {
        GrammarHouse house = Check.houseOf("S:A|'b';A:'a'*;");
        due("8: first rule", house.name(0, 0), 0);
        due("8: how many", house.name(0, 1), 2);
        due("8: first rule of A", house.name(1, 0), 2);
        due("8: how many of A", house.name(1, 1), 1);
        due("8: first rule of the made one", house.name(2, 0), 3);
        due("8: how many of the made one", house.name(2, 1), 2);
    }

    private static void flags(GrammarHouse house, int n, int empty, int ends, int reached, int useful) {
        due("8: empty " + n, house.name(n, 2), empty);
        due("8: ends " + n, house.name(n, 3), ends);
        due("8: reached " + n, house.name(n, 4), reached);
        due("8: useful " + n, house.name(n, 5), useful);
    }

    private static void emptyEndsReachedUseful() {
        // C ends and is reached, but by a rule alone that is not useful; D is not reached.
        GrammarHouse house = Check.houseOf("S:A|'s'B;A:S?;B:C B;C:'c'|;D:'d'A;");
        flags(house, 0, 1, 1, 1, 1);
        flags(house, 1, 1, 1, 1, 1);
        flags(house, 2, 0, 0, 1, 0);
        flags(house, 3, 1, 1, 1, 0);
        flags(house, 4, 0, 1, 0, 0);
        flags(house, 5, 1, 1, 1, 1);
        // Nothing is useful if NAME 0 does not end.
        house = Check.houseOf("S:A S;A:'a';B:;");
        flags(house, 0, 0, 0, 1, 0);
        flags(house, 1, 0, 1, 1, 0);
        flags(house, 2, 1, 1, 0, 0);
        // Empty by way of all the parts of a row.
        house = Check.houseOf("S:A B A B;A:B B;B:'b'*;");
        flags(house, 0, 1, 1, 1, 1);
        flags(house, 1, 1, 1, 1, 1);
    }

    private static void least() {
        GrammarHouse house = Check.houseOf("S:A A A A|'ab'B'a';A:B B B;B:'bb'|'b'B;C:C;D:'a'|D;");
        due("8: least of S", house.name(0, 6), 5);
        due("8: least of A", house.name(1, 6), 6);
        due("8: least of B", house.name(2, 6), 2);
        due("8: least of C", house.name(3, 6), -1);
        due("8: least of D", house.name(4, 6), 1);
        String four = "";
        for (char c = 'A'; c < 'H'; c++) {
            char next = (char) (c + 1);
            four += c + ":" + next + next + next + next + ";";
        }
        due("8: the greatest least", Check.houseOf(four + "H:'abc''d';").name(0, 6), 65536);
    }

    private static void circle() {
        GrammarHouse house = Check.houseOf("S:A E|S'a';A:B;B:E A E|'b';E:'e'|;C:C'c';D:D E D;F:E F;");
        due("8: S stands in none", house.name(0, 7), 0);
        due("8: A stands in one", house.name(1, 7), 1);
        due("8: B stands in one", house.name(2, 7), 1);
        due("8: E stands in none", house.name(3, 7), 0);
        due("8: C has a letter beside it", house.name(4, 7), 0);
        due("8: D is not empty", house.name(5, 7), 0);
        due("8: F need not end", house.name(6, 7), 1);
        house = Check.houseOf("S:S S|;");
        due("8: S beside itself", house.name(0, 7), 1);
        // + of what may be empty: X goes on with X.
        house = Check.houseOf("S:('a'|)+;");
        due("8: a made one", house.name(2, 7), 1);
        due("8: its group", house.name(1, 7), 0);
    }

    private static void nameSign() {
        GrammarHouse house = Check.houseOf(" S : A1 Z09 'b'?;A1:;Z09:;");
        due("9: S", house.nameSign(0, 0), 'S');
        due("9: behind S", house.nameSign(0, 1), -1);
        due("9: A1", house.nameSign(1, 0), 'A');
        due("9: A1", house.nameSign(1, 1), '1');
        due("9: behind A1", house.nameSign(1, 2), -1);
        due("9: Z09", house.nameSign(2, 1), '0');
        due("9: Z09", house.nameSign(2, 2), '9');
        due("9: behind Z09", house.nameSign(2, 3), -1);
        due("9: far behind", house.nameSign(2, Integer.MAX_VALUE), -1);
        due("9: farther than 32", house.nameSign(2, 33), -1);
        due("9: a made one", house.nameSign(3, 0), -1);
        due("9: no such name", house.nameSign(4, 0), GrammarHouse.UNKNOWN);
        due("9: no such name either", house.nameSign(-1, -1), GrammarHouse.UNKNOWN);
        due("9: below 0", house.nameSign(3, -1), GrammarHouse.OUTSIDE);
        // A made name never bears the signs of one that was read ahead.
        Check.read(house, "S:'a'?'b'?;");
        due("9: a made one", house.nameSign(1, 0), -1);
        due("9: a made one", house.nameSign(2, 0), -1);
    }

    private static void ruleAndPart() {
        GrammarHouse house = Check.houseOf("S:A[c-e]'xy'|;A:A;");
        due("10: rule(0, 0)", house.rule(0, 0), 0);
        due("10: rule(0, 1)", house.rule(0, 1), 4);
        due("10: rule(1, 1)", house.rule(1, 1), 0);
        due("10: rule(2, 0)", house.rule(2, 0), 1);
        due("10: rule(3, 0)", house.rule(3, 0), GrammarHouse.UNKNOWN);
        due("10: rule(-1, 5)", house.rule(-1, 5), GrammarHouse.UNKNOWN);
        due("10: rule(0, 2)", house.rule(0, 2), GrammarHouse.OUTSIDE);
        due("10: rule(0, -1)", house.rule(0, -1), GrammarHouse.OUTSIDE);
        due("11: a name", house.part(0, 0), -2);
        due("11: a class", house.part(0, 1), Check.bits("cde"));
        due("11: a letter", house.part(0, 2), Check.bits("x"));
        due("11: the next one", house.part(0, 3), Check.bits("y"));
        due("11: behind", house.part(0, 4), GrammarHouse.UNKNOWN);
        due("11: ahead", house.part(0, -1), GrammarHouse.UNKNOWN);
        due("11: of an empty row", house.part(1, 0), GrammarHouse.UNKNOWN);
        due("11: of no rule", house.part(3, 0), GrammarHouse.UNKNOWN);
        due("11: of no rule", house.part(-1, 0), GrammarHouse.UNKNOWN);
        due("11: a class of all", Check.houseOf("S:[a-z];").part(0, 0), (1 << 26) - 1);
    }

    private static void first() {
        GrammarHouse house = Check.houseOf("S:A B'c'|S'd';A:'a'|;B:[e-g]?;C:'x'D;D:D;E:'k'E|D'm'|B'z';");
        due("12: S", house.first(0), Check.bits("aefgc"));
        due("12: A", house.first(1), Check.bits("a"));
        due("12: B", house.first(2), Check.bits("efg"));
        due("12: C makes nothing", house.first(3), 0);
        due("12: D makes nothing", house.first(4), 0);
        due("12: E is not reached", house.first(5), Check.bits("kefgz"));
        due("12: the made one", house.first(6), Check.bits("efg"));
        due("12: first(7)", house.first(7), GrammarHouse.UNKNOWN);
        due("12: first(-1)", house.first(-1), GrammarHouse.UNKNOWN);
    }

    private static void follow() {
        GrammarHouse house = Check.houseOf("S:A B'c'|S'd'|'q'C;A:'a'|;B:[e-g]?;C:'x'A D'w';D:D;E:'k'A'y';");
        due("13: S", house.follow(0), Check.bits("d$"));
        due("13: A: what can not be made does not stand behind it", house.follow(1), Check.bits("efgc"));
        due("13: B", house.follow(2), Check.bits("c"));
        due("13: C is not useful", house.follow(3), 0);
        due("13: D is not useful", house.follow(4), 0);
        due("13: E is not reached", house.follow(5), 0);
        due("13: the made one", house.follow(6), Check.bits("c"));
        due("13: follow(7)", house.follow(7), GrammarHouse.UNKNOWN);
        due("13: follow(-1)", house.follow(-1), GrammarHouse.UNKNOWN);
        house = Check.houseOf("S:'a'L'b';L:M L|;M:'m'S?;");
        due("13: L", house.follow(1), Check.bits("b"));
        due("13: M", house.follow(2), Check.bits("mb"));
        due("13: S again", house.follow(0), Check.bits("mb$"));
        due("13: nothing ends", Check.houseOf("S:S'a';").follow(0), 0);
    }

    private static void table() {
        // S 0: A 'c'; 1: 'b'. A 2: 'a' A; 3: empty; 4: B. B 5: B 'x'. C 6: 'c'.
        GrammarHouse house = Check.houseOf("S:A'c'|'b';A:'a'A||B;B:B'x';C:'c';");
        due("14: S, a", house.table(0, 0), 0);
        due("14: S, b", house.table(0, 1), 1);
        due("14: S, c", house.table(0, 2), 0);
        due("14: S, d", house.table(0, 3), -1);
        due("14: S, the end", house.table(0, 26), -1);
        due("14: A, a", house.table(1, 0), 2);
        due("14: A, c", house.table(1, 2), 3);
        due("14: A, x", house.table(1, 23), -1);
        due("14: B is not useful", house.table(2, 23), -1);
        due("14: C is not reached", house.table(3, 2), -1);
        due("14: table(4, 0)", house.table(4, 0), GrammarHouse.UNKNOWN);
        due("14: table(-1, 99)", house.table(-1, 99), GrammarHouse.UNKNOWN);
        due("14: table(0, 27)", house.table(0, 27), GrammarHouse.OUTSIDE);
        due("14: table(0, -1)", house.table(0, -1), GrammarHouse.OUTSIDE);
        house = Check.houseOf("S:'a'S|'a'|;");
        due("14: several", house.table(0, 0), -2);
        due("14: the end", house.table(0, 26), 2);
        due("14: several by the end", Check.houseOf("S:A|;A:'a'|;").table(0, 26), -2);
        due("14: a", Check.houseOf("S:A|;A:'a'|;").table(0, 0), 0);
    }

    private static void refusals() {
        GrammarHouse house = Check.houseOf("S:'a';");
        due("8: name(1, 0)", house.name(1, 0), GrammarHouse.UNKNOWN);
        due("8: name(-1, 8)", house.name(-1, 8), GrammarHouse.UNKNOWN);
        due("8: name(0, 8)", house.name(0, 8), GrammarHouse.OUTSIDE);
        due("8: name(0, -1)", house.name(0, -1), GrammarHouse.OUTSIDE);
    }

    private static void withoutGrammar() {
        GrammarHouse house = new GrammarHouse();
        Check.read(house, "S");
        due("7: sum(0)", house.sum(0), GrammarHouse.STATE);
        due("7: sum(6)", house.sum(6), GrammarHouse.STATE);
        due("7: sum(7)", house.sum(7), GrammarHouse.OUTSIDE);
        due("8: name(-1, 0)", house.name(-1, 0), GrammarHouse.STATE);
        due("8: name(0, 8)", house.name(0, 8), GrammarHouse.OUTSIDE);
        due("9: nameSign(99, 0)", house.nameSign(99, 0), GrammarHouse.STATE);
        due("9: nameSign(0, -1)", house.nameSign(0, -1), GrammarHouse.OUTSIDE);
        due("10: rule(-1, 0)", house.rule(-1, 0), GrammarHouse.STATE);
        due("10: rule(0, 2)", house.rule(0, 2), GrammarHouse.OUTSIDE);
        due("11: part(-1, -1)", house.part(-1, -1), GrammarHouse.STATE);
        due("12: first(-1)", house.first(-1), GrammarHouse.STATE);
        due("13: follow(-1)", house.follow(-1), GrammarHouse.STATE);
        due("14: table(-1, 0)", house.table(-1, 0), GrammarHouse.STATE);
        due("14: table(0, 27)", house.table(0, 27), GrammarHouse.OUTSIDE);
    }
}

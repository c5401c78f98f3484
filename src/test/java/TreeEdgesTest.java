import java.math.BigInteger;

/** The sentences that name a boundary in what "2 Texts" tells of TREES and in "3", and promises 26 to 32. */
public final class TreeEdgesTest {
    private static final Check CHECK = new Check();
    private static final int[] FAR = {Integer.MIN_VALUE, -1000, 1000, Integer.MAX_VALUE};
    private static final long MOST = 999999999999999999L;

    private TreeEdgesTest() { }

    public static void main(String[] args) {
        trees();
        treesRefusals();
        withoutCircle();
        overOthers();
        most();
        oneMore();
        farMore();
        pick();
        pickNone();
        pickRefusals();
        byRule();
        byFirstPart();
        byFirstTree();
        bySecondPart();
        steps();
        stepRefusals();
        threeHundred();
        fullKeeps();
        deep();
        properRefusals();
        usefulRulesOfUsefulNames();
        leftOut();
        notTheEmptyRow();
        units();
        uselessAtLast();
        alikePairs();
        mostPairs();
        properOfTheLatest();
        properly();
        digestWithout();
        digestWith();
        digestWraps();
        withoutGrammar();
        CHECK.close();
    }

    private static void due(String call, long got, long want) {
        CHECK.due(call, got, want);
    }

    private static GrammarHouse house(String grammar, String letters) {
        GrammarHouse house = Check.houseOf(grammar);
        Check.put(house, letters);
        return house;
    }

    private static void trees() {
        CHECK.about("How many TREES of a NAME over the LETTERS from i up to j there are");
        GrammarHouse house = house("S:S S|'a';A:'b'A|;", "aaaaaaaa");
        long[] catalan = {0, 1, 1, 2, 5, 14, 42, 132, 429};
        for (int i = 0; i <= 8; i++) {
            for (int j = i; j <= 8; j++) {
                due("trees(0, " + i + ", " + j + ")", house.trees(0, i, j), catalan[j - i]);
                due("trees(1, " + i + ", " + j + ")", house.trees(1, i, j), i == j ? 1 : 0);
            }
        }
        due("of like rules", house("S:'a'|'a'|[a-b];", "a").trees(0, 0, 1), 3);
        due("of like rules, over none", Check.houseOf("S:||;").trees(0, 0, 0), 3);
        due("of no texts", Check.houseOf("S:S;").trees(0, 0, 0), 0);
    }

    private static void treesRefusals() {
        CHECK.about("trees(): UNKNOWN: NAME, i, j; OUTSIDE: i above j; STATE");
        GrammarHouse house = house("S:'a'*;", "aa");
        house.pick(0);
        CHECK.refused(house, "trees(2, 0, 0)", h -> h.trees(2, 0, 0), GrammarHouse.UNKNOWN);
        CHECK.refused(house, "trees(-1, 0, 0)", h -> h.trees(-1, 0, 0), GrammarHouse.UNKNOWN);
        CHECK.refused(house, "trees(0, 3, 3)", h -> h.trees(0, 3, 3), GrammarHouse.UNKNOWN);
        CHECK.refused(house, "trees(0, -1, 0)", h -> h.trees(0, -1, 0), GrammarHouse.UNKNOWN);
        CHECK.refused(house, "trees(0, 0, 3)", h -> h.trees(0, 0, 3), GrammarHouse.UNKNOWN);
        CHECK.refused(house, "trees(0, 0, -1)", h -> h.trees(0, 0, -1), GrammarHouse.UNKNOWN);
        CHECK.refused(house, "trees(0, 2, 1)", h -> h.trees(0, 2, 1), GrammarHouse.OUTSIDE);
        CHECK.refused(house, "trees(2, 2, 1)", h -> h.trees(2, 2, 1), GrammarHouse.UNKNOWN);
        CHECK.refused(house, "trees(0, 3, 1)", h -> h.trees(0, 3, 1), GrammarHouse.UNKNOWN);
        due("trees(1, 2, 2)", house.trees(1, 2, 2), 1);
        for (int far : FAR) {
            due("trees(" + far + ", 0, 0)", house.trees(far, 0, 0), GrammarHouse.UNKNOWN);
            due("trees(0, " + far + ", 0)", house.trees(0, far, 0), GrammarHouse.UNKNOWN);
            due("trees(0, 0, " + far + ")", house.trees(0, 0, far), GrammarHouse.UNKNOWN);
        }
    }

    private static void withoutCircle() {
        CHECK.about("In a TREE no NAME is above itself over the same LETTERS");
        due("S alone", house("S:S|'a';", "a").trees(0, 0, 1), 1);
        due("S beside the empty one", house("S:S S|'a'|;", "a").trees(0, 0, 1), 1);
        due("over no letters", Check.houseOf("S:S S|S|;").trees(0, 0, 0), 1);
        due("over others", house("S:A|'a';A:S|'a';", "a").trees(0, 0, 1), 2);
        due("and back", house("S:A|'a';A:S|'a';", "a").trees(1, 0, 1), 2);
        // A ring of eight: to each of the others and its letter.
        GrammarHouse ring = house("A:B|'x';B:C|'x';C:D|'x';D:E|'x';E:F|'x';F:G|'x';G:H|'x';H:A|'x';", "x");
        for (int n = 0; n < 8; n++) {
            due("trees(" + n + ", 0, 1) in a ring", ring.trees(n, 0, 1), 8);
        }
        due("pick(7)", ring.pick(7), 2);
        due("pick(0)", ring.pick(0), 9);
        due("deep() all around", ring.deep(), 8);
    }

    private static void overOthers() {
        CHECK.about("(from the same i up to the same j): over other LETTERS it can be above itself");
        due("over fewer letters", house("S:'a'S|;", "aaa").trees(0, 0, 3), 1);
        // S A with A over none: S over the same letters is left out, S over none is not.
        GrammarHouse house = house("S:S A|A;A:'a'|;", "a");
        // S: A alone (a); S A: S over none and A over a, where S is A.
        due("over none within one", house.trees(0, 0, 1), 2);
        due("over none", house.trees(0, 0, 0), 1);
        due("at the end", house.trees(0, 1, 1), 1);
        // Both over none, one behind the other, are not one above the other.
        due("beside one another", Check.houseOf("S:A A;A:|;").trees(0, 0, 0), 4);
    }

    private static void most() {
        CHECK.about("-2: more than 999999999999999999");
        GrammarHouse house = Check.houseOf(exactly("E D"));
        due("X", house.trees(1, 0, 0), 3);
        due("B", house.trees(2, 0, 0), 10);
        due("C", house.trees(3, 0, 0), 1000);
        due("D", house.trees(4, 0, 0), 1000000001L);
        due("E", house.trees(5, 0, 0), 999999999L);
        due("F", house.trees(6, 0, 0), 999);
        due("S", house.trees(0, 0, 0), MOST);
        due("the last one is picked", house.pick(MOST - 1) > 0 ? 1 : 0, 1);
        due("its first step", house.step(0), 0);
        due("the number behind it", house.pick(MOST), GrammarHouse.NONE);
        due("the first one is picked", house.pick(0) > 0 ? 1 : 0, 1);
    }

    /** X has 3 trees, B 10, C 1000, D a thousand million and 1, F 999, E as many less 1: E D has MOST. */
    private static String exactly(String rows) {
        return "S:" + rows + ";X:||;B:XX|;C:BBB;D:CCC|;E:FCC|FC|F;F:XXBB|XXB|XX;";
    }

    private static void oneMore() {
        CHECK.about("-2: more than 999999999999999999, one more");
        GrammarHouse house = Check.houseOf(exactly("E D|"));
        due("S", house.trees(0, 0, 0), -2);
        due("the last one of E D", house.pick(MOST - 1) > 1 ? 1 : 0, 1);
        due("its first step", house.step(0), 0);
        due("the tree behind those of E D", house.pick(MOST), 1);
        due("its first step", house.step(0), 1);
        due("OUTSIDE: one more", house.pick(MOST + 1), GrammarHouse.OUTSIDE);
        due("it stays", house.step(0), 1);
        house = Check.houseOf(exactly("|E D"));
        due("S, the empty row first", house.trees(0, 0, 0), -2);
        due("the empty row", house.pick(0), 1);
        due("the last one of E D", house.pick(MOST) > 1 ? 1 : 0, 1);
        due("its first step", house.step(0), 1);
    }

    private static void farMore() {
        CHECK.about("-2: more than 999999999999999999, far more than a long can hold");
        GrammarHouse house = Check.houseOf("S:AAAA|;A:BBBB|;B:CCCC|;C:DDDD|;D:EEEE|;E:|;");
        // E 2, D 17, C 83522, B 83522 to the fourth and 1.
        due("E", house.trees(5, 0, 0), 2);
        due("D", house.trees(4, 0, 0), 17);
        due("C", house.trees(3, 0, 0), 83522);
        due("B", house.trees(2, 0, 0), -2);
        due("A", house.trees(1, 0, 0), -2);
        due("S", house.trees(0, 0, 0), -2);
        due("pick(0)", house.pick(0), GrammarHouse.FULL);
        due("pick(MOST)", house.pick(MOST), GrammarHouse.FULL);
        house = house("S:S S S S|S S S|S S|A|;A:[a-h]|[a-z];", "abcdefgh");
        due("S of letters", house.trees(0, 0, 8) > 0 ? 1 : 0, 1);
    }

    private static void pick() {
        CHECK.about("The TREE k of THE TEXT is picked: how many STEPS it has");
        GrammarHouse house = house("S:'a'|A|'aa';A:'a';", "a");
        due("pick(0)", house.pick(0), 2);
        due("sum(6)", house.sum(6), 2);
        due("pick(1)", house.pick(1), 3);
        due("sum(6) of the other", house.sum(6), 3);
        due("step(1) of the other", house.step(1), 3);
        due("pick(0) again", house.pick(0), 2);
        due("step(2) of it", house.step(2), GrammarHouse.UNKNOWN);
        // Of THE TEXT as it is, not of its first letters.
        house.put(0);
        due("of the text", house.pick(0), 3);
        due("its rule", house.step(0), 2);
        due("one tree alone", house.pick(1), GrammarHouse.NONE);
    }

    private static void pickNone() {
        CHECK.about("NONE: there is no such TREE (what is picked stays)");
        GrammarHouse house = house("S:'a'|'a'|'b';", "a");
        due("the last one", house.pick(1), 2);
        long ahead = house.digest();
        due("the one behind it", house.pick(2), GrammarHouse.NONE);
        due("the greatest number", house.pick(MOST), GrammarHouse.NONE);
        due("digest() as ahead", house.digest(), ahead);
        due("step(0)", house.step(0), 1);
        house.put(0);
        due("of what is no text", house.pick(0), GrammarHouse.NONE);
        due("no tree is picked", house.sum(6), 0);
        due("of no texts", Check.houseOf("S:S;").pick(0), GrammarHouse.NONE);
    }

    private static void pickRefusals() {
        CHECK.about("OUTSIDE: k below 0, or above 999999999999999999; STATE; FULL");
        GrammarHouse house = house("S:'a';", "a");
        house.pick(0);
        for (long k : new long[] {-1, Long.MIN_VALUE, MOST + 1, Long.MAX_VALUE, -MOST, 1L << 62}) {
            CHECK.refused(house, "pick(" + k + ")", h -> h.pick(k), GrammarHouse.OUTSIDE);
            due("pick(" + k + ") without a grammar", new GrammarHouse().pick(k), GrammarHouse.OUTSIDE);
        }
        due("the tree stays", house.sum(6), 2);
        // What int would make 0 of is not 0.
        due("pick(2 to the 32nd)", house.pick(1L << 32), GrammarHouse.NONE);
        due("pick(MOST)", house.pick(MOST), GrammarHouse.NONE);
        due("pick(0) without a grammar", new GrammarHouse().pick(0), GrammarHouse.STATE);
        due("pick(MOST) without a grammar", new GrammarHouse().pick(MOST), GrammarHouse.STATE);
    }

    private static void picked(GrammarHouse house, long k, int... steps) {
        due("pick(" + k + ")", house.pick(k), steps.length);
        for (int i = 0; i < steps.length; i++) {
            due("step(" + i + ") of " + k, house.step(i), steps[i]);
        }
    }

    private static void byRule() {
        CHECK.about("TREES come by the RULE, the least first");
        GrammarHouse house = house("S:A|B|'a'|A;A:'b'|'a';B:'a';", "a");
        picked(house, 0, 0, 5, -1);
        picked(house, 1, 1, 6, -1);
        picked(house, 2, 2, -1);
        picked(house, 3, 3, 5, -1);
        due("no more", house.pick(4), GrammarHouse.NONE);
    }

    private static void byFirstPart() {
        CHECK.about("of one RULE by where the LETTERS of its first PART end, the least first");
        // A 1: aa; A 2: a; A 3: empty. The rule of A does not tell, where it ends does.
        GrammarHouse house = house("S:A A;A:'aa'|'a'|;", "aa");
        picked(house, 0, 0, 3, 1, -1, -1);
        picked(house, 1, 0, 2, -1, 2, -1);
        picked(house, 2, 0, 1, -1, -1, 3);
        due("no more", house.pick(3), GrammarHouse.NONE);
    }

    private static void byFirstTree() {
        CHECK.about("of those by the TREE of that PART, in this order");
        // A 1, A 2: a; B 3, B 4: b. The tree of A tells ahead of that of B.
        GrammarHouse house = house("S:A B;A:'a'|'a';B:'b'|'b';", "ab");
        picked(house, 0, 0, 1, -1, 3, -2);
        picked(house, 1, 0, 1, -1, 4, -2);
        picked(house, 2, 0, 2, -1, 3, -2);
        picked(house, 3, 0, 2, -1, 4, -2);
        due("no more", house.pick(4), GrammarHouse.NONE);
    }

    private static void bySecondPart() {
        CHECK.about("then by the second PART likewise, and so on");
        // A 1: empty; A 2: 'a'; A 3: 'a'.
        GrammarHouse house = house("S:A A A A;A:|'a'|'a';", "a");
        int[][] due = {{1, 1, 1, 2}, {1, 1, 1, 3}, {1, 1, 2, 1}, {1, 1, 3, 1}, {1, 2, 1, 1}, {1, 3, 1, 1}, {2, 1, 1, 1},
            {3, 1, 1, 1}};
        for (int k = 0; k < due.length; k++) {
            int[] steps = new int[6];
            int at = 1;
            for (int rule : due[k]) {
                steps[at++] = rule;
                if (rule > 1) {
                    steps[at++] = -1;
                }
            }
            picked(house, k, steps);
        }
        due("no more", house.pick(due.length), GrammarHouse.NONE);
    }

    private static void steps() {
        CHECK.about("the number of its RULE, then for each PART of a NAME its TREE, of a SET -1 less the LETTER");
        picked(house("S:[a-z]A'a'A;A:'z'|;", "mza"), 0, 0, -13, 1, -26, -1, 2);
        picked(house("S:;", ""), 0, 0);
        picked(house("S:|A;A:'z'|;", ""), 1, 1, 3);
        picked(house("S:S'b'|'a';", "abb"), 0, 0, 0, 1, -1, -2, -2);
    }

    private static void stepRefusals() {
        CHECK.about("The STEP i of the picked TREE. UNKNOWN; STATE: none is picked (whatever i is)");
        GrammarHouse house = house("S:'a';", "a");
        for (int i : new int[] {0, -1, 1, 300, Integer.MIN_VALUE, Integer.MAX_VALUE}) {
            due("step(" + i + ") of none", house.step(i), GrammarHouse.STATE);
            due("step(" + i + ") without a grammar", new GrammarHouse().step(i), GrammarHouse.STATE);
        }
        house.pick(0);
        due("step(0)", house.step(0), 0);
        due("step(1)", house.step(1), -1);
        CHECK.refused(house, "step(2)", h -> h.step(2), GrammarHouse.UNKNOWN);
        CHECK.refused(house, "step(-1)", h -> h.step(-1), GrammarHouse.UNKNOWN);
        for (int far : FAR) {
            due("step(" + far + ")", house.step(far), GrammarHouse.UNKNOWN);
        }
        house.back(0);
        due("step(0) behind back(0)", house.step(0), GrammarHouse.STATE);
    }

    private static void threeHundred() {
        CHECK.about("FULL: it has more than 300 STEPS");
        // S 1, three A of 1 + 4 (1 + 4 (1 + 4)) = 85: 256. C 1 + 4 = 5, B 1 + 4 * 5 = 21, E 1.
        String three = "A:BBBB;B:CCCC;C:EEEE;E:;";
        // 256 and F: 1, two B 42, E 1: 300.
        GrammarHouse house = Check.houseOf("S:AAAF;" + three + "F:BBE;");
        due("300", house.pick(0), 300);
        due("sum(6)", house.sum(6), 300);
        due("the last step", house.step(299), 4);
        due("step(300)", house.step(300), GrammarHouse.UNKNOWN);
        due("deep()", house.deep(), 5);
        house = Check.houseOf("S:AAAF;" + three + "F:BBEE;");
        due("301", house.pick(0), GrammarHouse.FULL);
        due("one tree there is", house.trees(0, 0, 0), 1);
        due("the one behind it", house.pick(1), GrammarHouse.NONE);
        // The 300th step is a letter, and the 301st.
        house = house("S:AAAF;" + three + "F:BB'x';", "x");
        due("300, a letter the last", house.pick(0), 300);
        due("the letter", house.step(299), -24);
        house = house("S:AAAF;" + three + "F:BB'xy';", "xy");
        due("301, a letter the last", house.pick(0), GrammarHouse.FULL);
    }

    private static void fullKeeps() {
        CHECK.about("What is refused changes nothing: FULL leaves what is picked");
        GrammarHouse house = Check.houseOf("S:|AAAA;A:BBBB;B:CCCC;C:DDDD;D:;");
        due("pick(0)", house.pick(0), 1);
        CHECK.refused(house, "pick(1)", h -> h.pick(1), GrammarHouse.FULL);
        due("sum(6)", house.sum(6), 1);
        due("step(0)", house.step(0), 0);
        due("deep()", house.deep(), 1);
        house.back(0);
        CHECK.refused(house, "pick(1) with none picked", h -> h.pick(1), GrammarHouse.FULL);
        due("none is picked", house.step(0), GrammarHouse.STATE);
    }

    private static void deep() {
        CHECK.about("How many NAMES are one above the other, at most. STATE: none is picked");
        GrammarHouse house = house("S:'a'|A A;A:'a'|B|;B:'a';", "a");
        due("none is picked", house.deep(), GrammarHouse.STATE);
        house.pick(0);
        due("S", house.deep(), 1);
        house.pick(1);
        due("S A", house.deep(), 2);
        // The deepest is told, be it the last part or not.
        house.pick(2);
        due("S A B in the last part", house.deep(), 3);
        house.pick(4);
        due("S A B in the first part", house.deep(), 3);
        house.pick(0);
        due("S again", house.deep(), 1);
        house.back(0);
        due("none is picked any more", house.deep(), GrammarHouse.STATE);
        due("without a grammar", new GrammarHouse().deep(), GrammarHouse.STATE);
        // All eight names over each of nine stretches of letters.
        house = house("A:B;B:C;C:D;D:E;E:F;F:G;G:H;H:'x'A|;", "xxxxxxxx");
        due("all names over all letters", house.pick(0), 8 * 9 + 8);
        due("deep()", house.deep(), 72);
    }

    private static void properOf(String grammar, int rules, int names, int parts) {
        GrammarHouse house = Check.houseOf(grammar);
        due("proper(0) of " + grammar, house.proper(0), rules);
        due("proper(1) of " + grammar, house.proper(1), names);
        due("proper(2) of " + grammar, house.proper(2), parts);
    }

    private static void properRefusals() {
        CHECK.about("proper(): OUTSIDE; STATE. properly(): UNKNOWN; STATE");
        GrammarHouse house = house("S:'a';", "a");
        CHECK.refused(house, "proper(3)", h -> h.proper(3), GrammarHouse.OUTSIDE);
        CHECK.refused(house, "proper(-1)", h -> h.proper(-1), GrammarHouse.OUTSIDE);
        CHECK.refused(house, "properly(2)", h -> h.properly(2), GrammarHouse.UNKNOWN);
        CHECK.refused(house, "properly(-1)", h -> h.properly(-1), GrammarHouse.UNKNOWN);
        for (int far : FAR) {
            due("proper(" + far + ")", house.proper(far), GrammarHouse.OUTSIDE);
            due("proper(" + far + ") without a grammar", new GrammarHouse().proper(far), GrammarHouse.OUTSIDE);
            due("properly(" + far + ")", house.properly(far), GrammarHouse.UNKNOWN);
        }
    }

    private static void usefulRulesOfUsefulNames() {
        CHECK.about("(1) All USEFUL RULES of USEFUL NAMES");
        properOf("S:'a'|'b'N|N;N:N;", 1, 1, 1);
        properOf("S:'a';A:'b'S;", 1, 1, 1);
        properOf("S:S;", 0, 0, 0);
        properOf("S:A S;A:'a';", 0, 0, 0);
    }

    private static void leftOut() {
        CHECK.about("(2) all rows that are left, if of its PARTS that are EMPTY NAMES any ones are left out (none, too)");
        properOf("S:A'x'A;A:'a'|;", 4 + 1, 2, 3 + 2 + 2 + 1 + 1);
        properOf("S:'x'A'x'A;A:'a'|;", 4 + 1, 2, 4 + 3 + 3 + 2 + 1);
        // What is not empty is not left out.
        properOf("S:A'x'A;A:'a';", 2, 2, 4);
        properOf("S:[a-b];", 1, 1, 1);
    }

    private static void notTheEmptyRow() {
        CHECK.about("but not the empty row");
        properOf("S:;", 0, 0, 0);
        properOf("S:A A;A:;", 0, 0, 0);
        properOf("S:'a'|;", 1, 1, 1);
        // A makes the empty row alone: it ends no more, and all rows with it go.
        properOf("S:A'x';A:;", 1, 1, 1);
    }

    private static void units() {
        CHECK.about("(3) A row of one NAME is left out; A has all rows of B that are not of one NAME, over others or not");
        properOf("S:A;A:'a';", 1, 1, 1);
        properOf("S:A|'s';A:B|'aa';B:'bb'S;", 3, 1, 1 + 2 + 3);
        properOf("S:A'x';A:S|'a';", 1 + 2, 2, 2 + 2 + 1);
        // A ring: each has all rows, S alone is useful.
        properOf("S:A|'s';A:B|'a';B:S|'b';", 3, 1, 3);
        // Where all around it is left out, a row of two becomes one of one NAME.
        properOf("S:A B;A:'a'|;B:'b'|;", 1 + 2 + 2, 3, 2 + 2 + 2);
        // To itself.
        properOf("S:S|'a';", 1, 1, 1);
        properOf("A:B;B:C;C:D;D:E;E:F;F:G;G:H;H:'h'A|'h';", 2, 1, 3);
    }

    private static void uselessAtLast() {
        CHECK.about("(4) Those that are not USEFUL among these (as in 1, with NAME 0) are left out");
        // B makes nothing but the empty row: no row with it ends.
        properOf("S:'a'B|B B'c'C;B:;C:'c';", 2 + 1, 2, 1 + 2 + 1);
        // C is reached by rows alone that are left out.
        properOf("S:'a'|B'x'C|'y'D;B:;C:'c';D:C;", 1 + 1 + 1 + 1 + 1, 3, 1 + 2 + 2 + 1 + 1);
        // A is reached by a row of one NAME alone.
        properOf("S:A|'s';A:'a'A'b'|'ab';", 3 + 2, 2, 1 + 3 + 2 + 3 + 2);
        properOf("S:A|'s';A:'ab';", 2, 1, 3);
    }

    private static void alikePairs() {
        CHECK.about("Alike pairs count once");
        properOf("S:'a'|'a'|[a-a];", 1, 1, 1);
        properOf("S:'a'|[a-b]|'b';", 3, 1, 3);
        properOf("S:'ab'|'ba'|'ab';", 2, 1, 4);
        properOf("S:A A;A:'a'|;", 1 + 1 + 1, 2, 2 + 1 + 1);
        properOf("S:A|'a';A:'a';", 1, 1, 1);
        // Of two names the same row is two pairs.
        properOf("S:A'x'|'a';A:'a';", 1 + 1 + 1, 2, 2 + 1 + 1);
        // A row of a name twice, one of them left out, either way.
        properOf("S:A A'x';A:'a'|;", 3 + 1, 2, 3 + 2 + 1 + 1);
    }

    private static void mostPairs() {
        CHECK.about("proper() of the greatest grammars");
        // Each name but the last has 16 rows by the four that are left out: 6 of two, 4 of three, 1 of four.
        String four = "S:A B C D|B C D E|C D E F|D E F G;A:'a'|;B:'b'|;C:'c'|;D:'d'|;E:'e'|;F:'f'|;G:'g'|;";
        // Pairs of two: of ABCD 6, then 3 more with each further one; of three 4, then 3 more; of
        // four 1 each; of one the seven letters.
        int twos = 6 + 3 + 3 + 3;
        int threes = 4 + 3 + 3 + 3;
        properOf(four, twos + threes + 4 + 7 + 7, 8, 2 * twos + 3 * threes + 4 * 4 + 7 + 7);
        // Eight names in a ring have the rows of all: twelve rows of two, of S alone.
        properOf("A:B|'aa'|'ab';B:C|'ba'|'bb';C:D|'ca';D:E|'da';E:F|'ea';F:G|'fa';G:H|'ga';H:A|'ha';", 10, 1, 20);
    }

    private static void properOfTheLatest() {
        CHECK.about("Of the proper grammar: of the GRAMMAR as it is, however many sets were in others");
        GrammarHouse house = new GrammarHouse();
        for (int width = 1; width <= 12; width++) {
            StringBuilder tape = new StringBuilder("S:");
            int rows = 0;
            for (char c = 'a'; c + width <= 'z' && rows < 20; c++) {
                tape.append(rows == 0 ? "" : "|").append('[').append(c).append('-').append((char) (c + width)).append(']');
                rows++;
            }
            due("read() of " + tape, Check.read(house, tape + ";"), rows);
            due("proper(0) of " + tape, house.proper(0), rows);
            due("proper(2) of " + tape, house.proper(2), rows);
        }
        due("read()", Check.read(house, "S:A;A:'a'|;"), 3);
        due("proper(0)", house.proper(0), 1);
        due("proper(1)", house.proper(1), 1);
    }

    private static void properly() {
        CHECK.about("Whether the first k LETTERS are a text of the proper grammar: the same texts but the empty one");
        GrammarHouse house = house("S:'a'S'b'|'ab'|;", "aabb");
        int[] due = {0, 0, 0, 0, 1};
        for (int k = 0; k <= 4; k++) {
            due("properly(" + k + ")", house.properly(k), due[k]);
        }
        due("accepts(0)", house.accepts(0), 1);
        due("the empty text alone", Check.houseOf("S:;").properly(0), 0);
        house = house("S:'a'*;", "aaaaaaaa");
        due("properly(8)", house.properly(8), 1);
        due("properly(1)", house.properly(1), 1);
        due("properly(9)", house.properly(9), GrammarHouse.UNKNOWN);
    }

    private static void digestWithout() {
        CHECK.about("without a GRAMMAR nothing of these comes");
        GrammarHouse house = new GrammarHouse();
        due("empty", house.digest(), ((17L * 31 + 0) * 31 + 0) * 31 - 1);
        Check.type(house, "S:");
        due("two signs", house.digest(), ((17L * 31 + 2) * 31 + 0) * 31 - 1);
        house.read();
        due("a fault", house.digest(), ((17L * 31 + 2) * 31 + 2) * 31 + 2);
        house.wipe();
        due("no signs, a fault", house.digest(), ((17L * 31 + 0) * 31 + 2) * 31 + 2);
    }

    private static long mixed(long... values) {
        long h = 17;
        for (long v : values) {
            h = 31 * h + v;
        }
        return h;
    }

    private static void digestWith() {
        CHECK.about("all from sum() on with a GRAMMAR alone");
        GrammarHouse house = Check.houseOf("S:;");
        long end = 67108864;
        // Signs and fault; sums; the name; next, items, end of the one place; proper.
        due("of S:;", house.digest(), mixed(3, 0, -1, 1, 1, 1, 0, 0, 0, 0, 0, 1, 1, 1, 1, 1, 0, 0, 0, end, end, 1, 0,
            0, 0, 0));
        house.pick(0);
        due("with its tree", house.digest(), mixed(3, 0, -1, 1, 1, 1, 0, 0, 0, 1, 0, 1, 1, 1, 1, 1, 0, 0, 0, end, end, 1,
            0, 0, 0, 0, 0));
        house.put(25);
        // A letter; then no text begins so: next 0, no items, NONE.
        due("with a letter", house.digest(), mixed(3, 0, -1, 1, 1, 1, 0, 1, 0, 0, 0, 1, 1, 1, 1, 1, 0, 0, 0, end, 25, end,
            1, 0, 0, 0, -1, 0, 0, 0));
        Check.type(house, "A");
        house.read();
        due("with a fault", house.digest(), mixed(4, 2, 4, 1, 1, 1, 0, 1, 0, 0, 0, 1, 1, 1, 1, 1, 0, 0, 0, end, 25, end,
            1, 0, 0, 0, -1, 0, 0, 0));
    }

    private static void digestWraps() {
        CHECK.about("(a long that wraps)");
        GrammarHouse house = Check.houseOf("S:'a';");
        BigInteger h = BigInteger.valueOf(17);
        long[] values = {6, 0, -1, 1, 1, 1, 1, 0, 0, 0, 0, 1, 0, 1, 1, 1, 1, 0, 1, 67108864, 1, 1, 1, 1, 1, 1};
        for (long v : values) {
            h = h.multiply(BigInteger.valueOf(31)).add(BigInteger.valueOf(v));
        }
        due("it is more than a long", h.bitLength() > 64 ? 1 : 0, 1);
        due("digest()", house.digest(), h.longValue());
        long ahead = house.digest();
        due("it changes nothing", house.digest(), ahead);
    }

    private static void withoutGrammar() {
        CHECK.about("STATE (there is no GRAMMAR); without a GRAMMAR nothing is UNKNOWN; OUTSIDE ahead of STATE");
        GrammarHouse house = new GrammarHouse();
        for (int n : new int[] {Integer.MIN_VALUE, -1, 0, 8, 9, Integer.MAX_VALUE}) {
            due("trees(n, n, n)", house.trees(n, n, n), GrammarHouse.STATE);
            due("trees(n, -1, 9)", house.trees(n, -1, 9), GrammarHouse.STATE);
            due("trees(n, 1, 0)", house.trees(n, 1, 0), GrammarHouse.OUTSIDE);
            due("properly(n)", house.properly(n), GrammarHouse.STATE);
        }
        for (int what = 0; what <= 2; what++) {
            due("proper(" + what + ")", house.proper(what), GrammarHouse.STATE);
        }
        due("proper(3)", house.proper(3), GrammarHouse.OUTSIDE);
        due("proper(-1)", house.proper(-1), GrammarHouse.OUTSIDE);
        due("step(0)", house.step(0), GrammarHouse.STATE);
        due("deep()", house.deep(), GrammarHouse.STATE);
    }
}

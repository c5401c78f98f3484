import java.math.BigInteger;
import java.util.HashSet;
import java.util.Set;

/** Promises 26 to 29: trees, pick, step, deep. */
public final class TreesTest {
    private static final Check CHECK = new Check();
    private static final long MOST = 999999999999999999L;

    private TreesTest() { }

    public static void main(String[] args) {
        counts();
        circles();
        manyTrees();
        order();
        picking();
        tooManySteps();
        steps();
        deep();
        afterChanges();
        withoutGrammar();
        CHECK.close();
    }

    private static void due(String call, long got, long want) {
        CHECK.due(call, got, want);
    }

    private static void counts() {
        GrammarHouse house = Check.houseOf("S:S S|'a';B:'a'B|'aa';");
        Check.put(house, "aaaaaaaa");
        long[] catalan = {0, 1, 1, 2, 5, 14, 42, 132, 429};
        for (int j = 0; j <= 8; j++) {
            due("26: trees(0, 0, " + j + ")", house.trees(0, 0, j), catalan[j]);
            due("26: trees(0, 8 - " + j + ", 8)", house.trees(0, 8 - j, 8), catalan[j]);
            due("26: trees(1, 0, " + j + ")", house.trees(1, 0, j), j >= 2 ? 1 : 0);
        }
        due("26: no name", house.trees(2, 5, 4), GrammarHouse.UNKNOWN);
        due("26: no name", house.trees(-1, 0, 0), GrammarHouse.UNKNOWN);
        due("26: no i", house.trees(0, 9, 0), GrammarHouse.UNKNOWN);
        due("26: no i", house.trees(0, -1, 0), GrammarHouse.UNKNOWN);
        due("26: no j", house.trees(0, 0, 9), GrammarHouse.UNKNOWN);
        due("26: no j", house.trees(0, 0, -1), GrammarHouse.UNKNOWN);
        due("26: i above j", house.trees(0, 5, 4), GrammarHouse.OUTSIDE);
    }

    /** No name is above itself over the same letters, but it may be over others. */
    private static void circles() {
        GrammarHouse house = Check.houseOf("S:S|A|'a';A:S|B|'a';B:S|'a';");
        Check.put(house, "a");
        // S: A or a. A below S: B or a. B below both: a.
        due("26: S", house.trees(0, 0, 1), 3);
        // A: S (a alone below), B (S (a), a), a.
        due("26: A", house.trees(1, 0, 1), 4);
        // B: S (A (a), a), a.
        due("26: B", house.trees(2, 0, 1), 3);
        house = Check.houseOf("S:S S|'a'|;");
        due("26: the empty row", house.trees(0, 0, 0), 1);
        Check.put(house, "aa");
        due("26: both", house.trees(0, 0, 2), 1);
        house = Check.houseOf("S:'a'?;A:()*;");
        due("26: of circles none", house.trees(1, 0, 0), 1);
    }

    private static void manyTrees() {
        // E has four rules alike; a name above has those below to the fourth, and the empty row.
        GrammarHouse house = Check.houseOf("S:A A A A;A:B B B B|;B:C C C C|;C:D D D D|;D:E E E E|;E:|||;");
        BigInteger many = BigInteger.valueOf(4);
        for (int n = 5; n >= 0; n--) {
            long want = many.compareTo(BigInteger.valueOf(MOST)) > 0 ? -2 : many.longValue();
            due("26: trees(" + n + ", 0, 0)", house.trees(n, 0, 0), want);
            many = many.pow(4).add(n > 1 ? BigInteger.ONE : BigInteger.ZERO);
        }
        // Eighteen C of ten rules each: 10 to the 18th is one too many.
        house = Check.houseOf("S:A A A;A:B B B;B:C C;C:|||||||||;");
        due("26: a thousand thousand", house.trees(1, 0, 0), 1000000);
        due("26: one more than is told", house.trees(0, 0, 0), -2);
        due("27: the tree behind", house.pick(MOST), 1 + 3 + 9 + 18);
        due("28: its last step", house.step(30), 3 + 9);
        house = Check.houseOf("S:A A B;A:B B B;B:C C;C:||||||||;D:C;");
        due("26: 9 to the 14th", house.trees(0, 0, 0), 22876792454961L);
        due("27: the last one", house.pick(22876792454960L), 1 + 2 + 7 + 14);
        due("27: none behind it", house.pick(22876792454961L), -1);
        due("27: not the most", house.pick(MOST), -1);
    }

    /** By the rule, by where the first part ends, by its tree, then by the second part. */
    private static void order() {
        // 0: S: A B; 1: S: B 'a'. 2: A: empty; 3: A: 'a'; 4: A: 'aa'. 5: B: 'a'; 6: B: C; 7: C: 'a'; 8: C: 'aa'.
        GrammarHouse house = Check.houseOf("S:A B|B'a';A:|'a'|'aa';B:'a'|C;C:'a'|'aa';");
        Check.put(house, "aa");
        int a = -1;
        int[][] want = {{0, 2, 6, 8, a, a}, {0, 3, a, 5, a}, {0, 3, a, 6, 7, a}, {1, 5, a, a}, {1, 6, 7, a, a}};
        due("26: trees", house.trees(0, 0, 2), want.length);
        for (int k = 0; k < want.length; k++) {
            due("27: pick(" + k + ")", house.pick(k), want[k].length);
            due("7: sum(6)", house.sum(6), want[k].length);
            for (int i = 0; i < want[k].length; i++) {
                due("28: step(" + i + ") of " + k, house.step(i), want[k][i]);
            }
        }
        due("27: pick(5)", house.pick(5), -1);
        // The first part's tree counts more than where the second one ends.
        house = Check.houseOf("S:A A A;A:'a'|B|;B:'a';");
        Check.put(house, "aa");
        String due = "0 3 1 -1 1 -1,0 3 1 -1 2 4 -1,0 3 2 4 -1 1 -1,0 3 2 4 -1 2 4 -1,"
            + "0 1 -1 3 1 -1,0 1 -1 3 2 4 -1,0 1 -1 1 -1 3,0 1 -1 2 4 -1 3,"
            + "0 2 4 -1 3 1 -1,0 2 4 -1 3 2 4 -1,0 2 4 -1 1 -1 3,0 2 4 -1 2 4 -1 3";
        String[] trees = due.split(",");
        due("26: trees", house.trees(0, 0, 2), trees.length);
        for (int k = 0; k < trees.length; k++) {
            String[] steps = trees[k].split(" ");
            due("27: pick(" + k + ") of A A A", house.pick(k), steps.length);
            for (int i = 0; i < steps.length; i++) {
                due("28: step(" + i + ") of " + k + " of A A A", house.step(i), Integer.parseInt(steps[i]));
            }
        }
    }

    /** No two numbers pick the same tree, and the letters of each are the text. */
    private static void picking() {
        String[] grammars = {"S:S S|'a'|'b'|;", "S:S S S|A|'ab';A:S|[a-b]*;", "S:(('a'|'b')+|)+;"};
        for (String grammar : grammars) {
            GrammarHouse house = Check.houseOf(grammar);
            Check.put(house, "abab");
            long all = house.trees(0, 0, 4);
            Set<String> seen = new HashSet<>();
            long most = Math.min(all, 400);
            for (long k = 0; k < most; k++) {
                StringBuilder steps = new StringBuilder();
                StringBuilder letters = new StringBuilder();
                int many = house.pick(k);
                for (int i = 0; i < many; i++) {
                    steps.append(house.step(i)).append(' ');
                    letters.append(house.step(i) < 0 ? (char) ('a' - 1 - house.step(i)) : ' ');
                }
                due("27: pick(" + k + ") in " + grammar + " is a new one", seen.add(steps.toString()) ? 1 : 0, 1);
                due("28: letters of " + k, letters.toString().replace(" ", "").equals("abab") ? 1 : 0, 1);
            }
            due("27: none behind", house.pick(all), -1);
        }
        GrammarHouse house = Check.houseOf("S:'a';");
        due("27: pick(-1)", house.pick(-1), GrammarHouse.OUTSIDE);
        due("27: pick(10^18)", house.pick(MOST + 1), GrammarHouse.OUTSIDE);
        due("27: pick(10^18 - 1)", house.pick(MOST), -1);
        due("27: pick(0) of no text", house.pick(0), -1);
    }

    private static void tooManySteps() {
        // S 1, A 4, B 16, C 64, D 256: 341 steps.
        GrammarHouse house = Check.houseOf("S:A A A A;A:B B B B;B:C C C C;C:D D D D;D:;");
        due("26: one tree", house.trees(0, 0, 0), 1);
        due("27: of 341 steps", house.pick(0), GrammarHouse.FULL);
        due("28: none is picked", house.step(0), GrammarHouse.STATE);
        // S and the three A of 85 each: 256. E 1, its three C 15, F 28: 44 more.
        String three = "S:A A A E;A:B B B B;B:C C C C;C:D D D D;D:;E:C C C F;";
        // F 1, its three C 15, G 12: 1, two C 10, D 1.
        GrammarHouse full = Check.houseOf(three + "F:C C C G;G:C C D;");
        due("27: of 300 steps", full.pick(0), 300);
        due("28: the last one", full.step(299), 4);
        due("28: none behind", full.step(300), GrammarHouse.UNKNOWN);
        full = Check.houseOf(three + "F:C C C G;G:C C D D;");
        due("27: of 301 steps", full.pick(0), GrammarHouse.FULL);
        // What is picked stays.
        house = Check.houseOf("S:'a'|A A A A;A:B B B B;B:C C C C;C:D D D D;D:'a'|;");
        house.put(0);
        due("27: the first", house.pick(0), 2);
        due("27: the next", house.pick(1), GrammarHouse.FULL);
        due("28: stays", house.step(1), -1);
        due("29: stays", house.deep(), 1);
        due("27: none", house.pick(1000), -1);
        due("28: still stays", house.step(0), 0);
    }

    private static void steps() {
        GrammarHouse house = Check.houseOf("S:A[a-z];A:'z'|;");
        Check.put(house, "zy");
        due("27: pick(0)", house.pick(0), 4);
        due("28: S", house.step(0), 0);
        due("28: A", house.step(1), 1);
        due("28: z", house.step(2), -26);
        due("28: y", house.step(3), -25);
        due("28: step(4)", house.step(4), GrammarHouse.UNKNOWN);
        due("28: step(-1)", house.step(-1), GrammarHouse.UNKNOWN);
        due("28: step(most)", house.step(Integer.MAX_VALUE), GrammarHouse.UNKNOWN);
    }

    private static void deep() {
        GrammarHouse house = Check.houseOf("S:'a'S|A;A:B 'b';B:;");
        Check.put(house, "aab");
        due("29: none is picked", house.deep(), GrammarHouse.STATE);
        due("27: pick(0)", house.pick(0), 8);
        due("29: S S S A B", house.deep(), 5);
        house.back(3);
        house = Check.houseOf("S:A B C;A:B;B:C;C:'c';");
        Check.put(house, "ccc");
        house.pick(0);
        due("29: S A B C", house.deep(), 4);
    }

    /** Counts go by the text as it is, not as it was. */
    private static void afterChanges() {
        GrammarHouse house = Check.houseOf("S:S S|'a'|'b'S'b';");
        Check.put(house, "aaa");
        due("26: aaa", house.trees(0, 0, 3), 2);
        house.back(2);
        Check.put(house, "ba");
        due("26: aba", house.trees(0, 0, 3), 0);
        Check.put(house, "b");
        due("26: abab", house.trees(0, 0, 4), 1);
        due("27: pick(0)", house.pick(0), 8);
        Check.read(house, "S:'a'|'a';");
        due("28: none is picked", house.step(0), GrammarHouse.STATE);
        due("29: none is picked", house.deep(), GrammarHouse.STATE);
        Check.put(house, "a");
        due("26: another grammar", house.trees(0, 0, 1), 2);
        due("26: over nothing", house.trees(0, 1, 1), 0);
    }

    private static void withoutGrammar() {
        GrammarHouse house = new GrammarHouse();
        due("26: trees(9, 9, 9)", house.trees(9, 9, 9), GrammarHouse.STATE);
        due("26: trees(0, 1, 0)", house.trees(0, 1, 0), GrammarHouse.OUTSIDE);
        due("27: pick(0)", house.pick(0), GrammarHouse.STATE);
        due("27: pick(-1)", house.pick(-1), GrammarHouse.OUTSIDE);
        due("28: step(-1)", house.step(-1), GrammarHouse.STATE);
        due("29: deep()", house.deep(), GrammarHouse.STATE);
    }
}

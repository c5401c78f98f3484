import java.util.HashSet;
import java.util.Set;

/** "WHAT ALWAYS HOLDS", for all texts of a few letters up to some length, in grammars of each kind. */
public final class AlwaysTest {
    private static final Check CHECK = new Check();
    private static final String[] LEFT_RECURSIVE = {"S:S'a'|'b';", "S:A'a'|'b';A:S'b'|A'a'|;", "S:S A|;A:A'ab'|'b';"};
    private static final String[] UNCLEAR = {"S:S S|'a'|'b';", "S:A|B;A:'a'+'b'*;B:'a'*'b'+;", "S:'a'S|'a'S'b'S|;"};
    private static final String[] CIRCULAR = {"S:S S|'a'|'b'S'b'|;", "S:A|'a'S;A:B|'b';B:S|;", "S:('a'?('b'S)?)*;"};
    private static final String[] USELESS = {"S:'a'S|'b'N|'b';N:N'a';B:'b';", "S:N|A;N:S N|'a'N;A:'a'|;", "S:S|'a'S'b';"};
    private static String grammar;
    private static GrammarHouse house;
    private static String letters;

    private AlwaysTest() { }

    public static void main(String[] args) {
        for (String[] kind : new String[][] {LEFT_RECURSIVE, UNCLEAR, CIRCULAR, USELESS}) {
            for (String one : kind) {
                grammar = one;
                house = Check.houseOf(grammar);
                letters = "";
                tryTexts(5);
            }
        }
        CHECK.close();
    }

    /** The text as it is, and all that begin with it. */
    private static void tryTexts(int more) {
        tryText();
        for (char c = 'a'; c <= 'c' && more > 0; c++) {
            house.put(c - 'a');
            letters += c;
            tryTexts(more - 1);
            house.back(1);
            letters = letters.substring(0, letters.length() - 1);
        }
    }

    private static void due(String call, boolean got, boolean want) {
        CHECK.due(call + " of " + letters + " in " + grammar, got ? 1 : 0, want ? 1 : 0);
    }

    private static void tryText() {
        int k = letters.length();
        Oracle oracle = new Oracle(grammar);
        boolean is = oracle.makes(0, letters);
        CHECK.about("accepts() says yes if and only if steps from the NAME 0 make the text");
        due("accepts()", house.accepts(k) == 1, is);
        due("makes()", house.makes(0, 0, k) == 1, is);
        CHECK.about("trees() is 0 if and only if it is none");
        due("trees()", house.trees(0, 0, k) != 0, is);
        CHECK.about("a text is accepted if and only if each of its letters is in what next() told ahead of it, and the"
            + " end behind the last");
        boolean goesOn = (house.next(k) >> 26 & 1) != 0;
        for (int i = 0; i < k; i++) {
            goesOn &= (house.next(i) >> letters.charAt(i) - 'a' & 1) != 0;
        }
        due("next()", goesOn, is);
        CHECK.about("end() is 0 just where the text is accepted; repair() too");
        due("end()", house.end(k) == 0, is);
        due("repair()", house.repair() == 0, is);
        CHECK.about("next() has just the letters with which some text of the grammar goes on");
        due("end() and next()", house.end(k) >= 0, house.next(k) != 0);
        CHECK.about("the proper grammar has the same texts but the empty one");
        due("properly()", house.properly(k) == 1, is && k > 0);
        due("by its own rules", k == 0 || oracle.properlyMakes(letters), k == 0 || is);
        tryTrees(k);
    }

    private static void tryTrees(int k) {
        CHECK.about("the letters of a picked tree, from the left, are the text, and no two numbers pick the same tree");
        long all = house.trees(0, 0, k);
        due("how many trees are told", all >= 0, true);
        Set<String> seen = new HashSet<>();
        for (int t = 0; t < Math.min(all, 60); t++) {
            int many = house.pick(t);
            StringBuilder steps = new StringBuilder();
            StringBuilder read = new StringBuilder();
            for (int i = 0; i < many; i++) {
                int step = house.step(i);
                steps.append(step).append(' ');
                read.append(step < 0 ? String.valueOf((char) ('a' - 1 - step)) : "");
            }
            due("letters of tree " + t, read.toString().equals(letters), true);
            due("tree " + t + " is another one", seen.add(steps.toString()), true);
        }
        due("pick() behind the last", house.pick(all) == GrammarHouse.NONE, true);
    }
}

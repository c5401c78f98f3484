import java.math.BigInteger;
import java.util.ArrayList;
import java.util.Arrays;
import java.util.List;
import java.util.Set;

/**
 * Trees too many to write out: how many there are, and single ones of them, against an oracle that
 * counts without a bound and keeps all names above. The first argument tells how many grammars, the
 * second one where the row of numbers begins.
 */
public final class ManyTreesTest {
    private static final Check CHECK = new Check();
    private static final BigInteger MOST = BigInteger.valueOf(999999999999999999L);
    private static final String[] CHOSEN = {
        "S:S S S S|'a'|S S|;", "S:A A A A|'a';A:S|B|;B:A S|'a'|S;", "A:B B|C|'a';B:C A|;C:D|E A;D:E|A;E:A|'b'|;",
        "A:B|C|D;B:A|C|D|'a';C:A|B|D|A A;D:A|B|C|;", "S:(S|'a'|A)*;A:S?A?'b'?;",
        "A:B C D|'a'|;B:C D A|'b'|;C:D A B|;D:A B C|'a'|;", "S:S S'a'|S'a'S|'a'S S|;", "A:B B B B|'a';B:C C C C|;C:A A A A|;",
    };
    private static long x;
    private static int[] sizes;

    private ManyTreesTest() { }

    public static void main(String[] args) {
        int grammars = args.length > 0 ? Integer.parseInt(args[0]) : 200;
        x = args.length > 1 ? Long.parseLong(args[1]) : 11;
        sizes = new int[4];
        for (int g = 0; g < grammars; g++) {
            tryGrammar(g < CHOSEN.length ? CHOSEN[g] : grammar());
        }
        System.out.println("counts of 0, up to 300, up to the most, more: " + Arrays.toString(sizes));
        CHECK.close();
    }

    private static int dice(int n) {
        x = x * 6364136223846793005L + 1442695040888963407L;
        return (int) Long.remainderUnsigned(x >>> 33, n);
    }

    /** A few names, each with an empty row or rows of names: nearly all of them in circles. */
    private static String grammar() {
        int names = 1 + dice(4);
        StringBuilder signs = new StringBuilder();
        for (int n = 0; n < names; n++) {
            signs.append((char) ('A' + n)).append(':');
            for (int rows = 1 + dice(3); rows > 0; rows--) {
                for (int parts = dice(4); parts > 0; parts--) {
                    signs.append(dice(4) == 0 ? "'" + (char) ('a' + dice(2)) + "'" : String.valueOf((char) ('A' + dice(names))));
                }
                signs.append('|');
            }
            signs.append(dice(3) == 0 ? "" : "'a'").append(';');
        }
        return signs.toString();
    }

    private static void tryGrammar(String tape) {
        GrammarHouse house = new GrammarHouse();
        Oracle oracle = new Oracle(tape);
        CHECK.due("read() of " + tape, Check.read(house, tape), oracle.rules.size());
        StringBuilder letters = new StringBuilder();
        for (int length = 0; length <= 8; length++) {
            String text = letters.toString();
            for (int n = 0; n < oracle.names; n++) {
                int i = dice(length + 1);
                String call = "<" + tape + "> trees(" + n + ", " + i + ", " + length + ") of " + text;
                CHECK.due(call, house.trees(n, i, length), told(oracle.count(n, text, i, length, Set.of())));
            }
            BigInteger all = oracle.count(0, text, 0, length, Set.of());
            CHECK.due("<" + tape + "> all trees of " + text, house.trees(0, 0, length), told(all));
            sizes[all.signum() == 0 ? 0 : all.bitLength() < 9 ? 1 : all.compareTo(MOST) <= 0 ? 2 : 3]++;
            for (int times = 0; times < 4; times++) {
                pickOne(house, oracle, "<" + tape + "> of " + text + ": ", text, all);
            }
            char c = dice(4) == 0 ? 'b' : 'a';
            letters.append(c);
            house.put(c - 'a');
        }
    }

    private static long told(BigInteger count) {
        return count.compareTo(MOST) > 0 ? -2 : count.longValueExact();
    }

    private static void pickOne(GrammarHouse house, Oracle oracle, String of, String text, BigInteger all) {
        long most = all.min(MOST).longValueExact();
        long k = dice(6) == 0 ? most : dice(5) == 0 ? Math.max(most - 1, 0) : Long.remainderUnsigned(x, most + 1);
        String call = of + "pick(" + k + ")";
        if (BigInteger.valueOf(k).compareTo(all) >= 0) {
            CHECK.due(call, house.pick(k), GrammarHouse.NONE);
            return;
        }
        List<Integer> steps = new ArrayList<>();
        int deep = oracle.tell(0, text, 0, text.length(), Set.of(), BigInteger.valueOf(k), steps);
        if (steps.size() > 300) {
            CHECK.due(call, house.pick(k), GrammarHouse.FULL);
            return;
        }
        CHECK.due(call, house.pick(k), steps.size());
        for (int i = 0; i < steps.size(); i++) {
            CHECK.due(call + " step(" + i + ")", house.step(i), steps.get(i));
        }
        CHECK.due(call + " deep()", house.deep(), deep);
    }
}

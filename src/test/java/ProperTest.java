/** Promises 30 to 32: proper, properly, digest. */
public final class ProperTest {
    private static final Check CHECK = new Check();

    private ProperTest() { }

    public static void main(String[] args) {
        proper();
        properRefusals();
        properly();
        digest();
        CHECK.close();
    }

    private static void due(String call, long got, long want) {
        CHECK.due(call, got, want);
    }

    private static void properOf(String grammar, int rules, int names, int parts) {
        GrammarHouse house = Check.houseOf(grammar);
        due("30: rules of " + grammar, house.proper(0), rules);
        due("30: names of " + grammar, house.proper(1), names);
        due("30: parts of " + grammar, house.proper(2), parts);
    }

    private static void proper() {
        properOf("S:'a';", 1, 1, 1);
        properOf("S:;", 0, 0, 0);
        properOf("S:S;", 0, 0, 0);
        properOf("S:S'a';", 0, 0, 0);
        // S: A a, a; A: b.
        properOf("S:A'a';A:'b'|;", 3, 2, 4);
        // S: A B, and of A alone a, of B alone b; A: a; B: b.
        properOf("S:A B;A:'a'|;B:'b'|;", 1 + 2 + 2, 3, 2 + 2 + 2);
        // A makes nothing but the empty row: no row with it is left.
        properOf("S:A'a'A|A;A:;", 1, 1, 1);
        // Units over others: S has the rows of C; A, B and C are reached no more.
        properOf("S:A;A:B|'x';B:C|;C:'c''d'|S;", 2, 1, 3);
        // Alike pairs count once: S S to S, twice, which is a unit; a twice.
        properOf("S:S S|'a'|'a'|;", 2, 1, 3);
        properOf("S:A A|A'b'|'b'A|'b';A:'a'|;", 1 + 1 + 1 + 1 + 1 + 1, 2, 2 + 2 + 2 + 1 + 1 + 1);
        // Sets count by their letters: [a-a] is 'a'.
        properOf("S:'a'|[a-a]|[a-b]|'b';", 3, 1, 3);
        // Useless rules ahead are left out: B makes nothing, C is not reached.
        properOf("S:'a'|B|'b'B;B:B'x';C:'c';", 1, 1, 1);
        // All ways to leave some of four out: 4 + 6 + 4 + 1 rows, those of one part but one alike.
        properOf("S:A B C D;A:'a'|;B:'b'|;C:'c'|;D:'d'|;", 1 + 4 + 6 + 4 + 4, 5, 4 + 12 + 12 + 4 + 4);
        // Units to all other names.
        properOf("S:A|B|C|D|E|F|G;A:'a';B:'b';C:'c';D:'d';E:'e';F:'f';G:'g';", 7, 1, 7);
        // NAME 0 is one of those that lead on to others.
        properOf("S:A|'b';A:S|'a'S;", 2, 1, 3);
    }

    private static void properRefusals() {
        GrammarHouse house = Check.houseOf("S:'a'A;A:'b'*;");
        due("30: proper(3)", house.proper(3), GrammarHouse.OUTSIDE);
        due("30: proper(-1)", house.proper(-1), GrammarHouse.OUTSIDE);
        due("31: properly(1)", house.properly(1), GrammarHouse.UNKNOWN);
        due("31: properly(-1)", house.properly(-1), GrammarHouse.UNKNOWN);
        due("30: proper(0)", house.proper(0), 6);
        Check.read(house, "S:'a';");
        due("30: of the grammar as it is", house.proper(0), 1);
        house = new GrammarHouse();
        due("30: proper(0)", house.proper(0), GrammarHouse.STATE);
        due("30: proper(3)", house.proper(3), GrammarHouse.OUTSIDE);
        due("31: properly(9)", house.properly(9), GrammarHouse.STATE);
    }

    private static void properly() {
        GrammarHouse house = Check.houseOf("S:'a'S'b'|;");
        Check.put(house, "aabb");
        int[] want = {0, 0, 0, 0, 1};
        for (int k = 0; k <= 4; k++) {
            due("31: properly(" + k + ")", house.properly(k), want[k]);
        }
        house = Check.houseOf("S:'a'*;");
        due("31: the empty text", house.properly(0), 0);
        Check.put(house, "aa");
        due("31: properly(1)", house.properly(1), 1);
        due("31: properly(2)", house.properly(2), 1);
    }

    private static long mixed(long h, long... values) {
        for (long v : values) {
            h = 31 * h + v;
        }
        return h;
    }

    private static void digest() {
        GrammarHouse house = new GrammarHouse();
        due("32: a new object", house.digest(), mixed(17, 0, 0, -1));
        Check.type(house, " S");
        due("32: signs", house.digest(), mixed(17, 2, 0, -1));
        house.read();
        due("32: a fault", house.digest(), mixed(17, 2, 2, 2));
        Check.read(house, "S:A'b';A:'a'|;");
        house.wipe();
        Check.put(house, "ab");
        due("32: pick(0)", house.pick(0), 4);
        long h = mixed(17, 0, 0, -1);
        h = mixed(h, 2, 2, 3, 3, 2, 0, 4);
        h = mixed(h, 0, 1, 0, 1, 1, 1, 1, 0, Check.bits("ab"), Check.bits("$"));
        h = mixed(h, 1, 2, 1, 1, 1, 1, 0, 0, Check.bits("a"), Check.bits("b"));
        h = mixed(h, 0, 1);
        // Items at 0: S, A, A, the empty A done (that is A itself), S behind A.
        h = mixed(h, Check.bits("ab"), 4, 1, Check.bits("b"), 2, 1, Check.bits("$"), 1, 0);
        h = mixed(h, 0, 1, -1, -2);
        h = mixed(h, 3, 2, 4);
        due("32: with all", house.digest(), h);
        due("32: again", house.digest(), h);
        Check.type(house, "S:;S");
        house.read();
        due("32: faults and signs change", house.digest() == h ? 1 : 0, 0);
    }
}

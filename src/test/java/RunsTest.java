/**
 * Runs of 512 calls with all kinds of numbers: each answer against that of a fresh object that was
 * brought to the same state the short way, so that nothing of what was ahead is left over.
 * The first argument tells how many runs, the second one where the row of numbers begins.
 */
public final class RunsTest {
    private static final Check CHECK = new Check();
    private static final String[] TAPES = {
        "S:S S|'a'|'b'S'b'|;", "S:A'b'?|'c'A;A:S|'a'*|;B:S;", "S:((S|'a')+|'bc'?)*;", "S:'ab'S|A;A:[a-c]A|;",
        "S:A A A A;A:B B B B;B:C C C C;C:S|'a'|;", "S:S A;A:'a'|;", "S:'a", "S:S S;;", "S:A|'a';", "S:;S:;",
        "S:S S S S S;", "S:'a'S|'b'N|'b';N:N'a';B:'b';", "S:((S S S", "S:'ab'(S(S S'a'#", "A:B|C|D|;B:A|C|D|'a';C:A|B|D|'b';D:A B C|'c'|;", "S:;", "  ", "S:[a-z]S?;",
        "A:B C|'a';B:C D|'b'|;C:D E|A;D:E F|'c'|;E:F G|B;F:G H|'d'|;G:H A|C;H:A B|;",
    };
    private static long x;
    /** The state that a fresh object is to be brought to. */
    private static String tape;
    private static String readTape;
    private static String grammar;
    private static String letters;
    private static long picked;

    private RunsTest() { }

    public static void main(String[] args) {
        int runs = args.length > 0 ? Integer.parseInt(args[0]) : 120;
        x = args.length > 1 ? Long.parseLong(args[1]) : 5;
        for (int run = 0; run < runs; run++) {
            tape = "";
            readTape = null;
            grammar = null;
            letters = "";
            picked = -1;
            GrammarHouse house = new GrammarHouse();
            int calls = 0;
            while (calls < 500) {
                calls += dice(3) == 0 ? change(house, "run " + run + ": ") : ask(house, "run " + run + ": ");
            }
        }
        CHECK.close();
    }

    private static int dice(int n) {
        x = x * 6364136223846793005L + 1442695040888963407L;
        return (int) Long.remainderUnsigned(x >>> 33, n);
    }

    private static int number() {
        switch (dice(24)) {
            case 0: return Integer.MIN_VALUE;
            case 1: return Integer.MAX_VALUE;
            case 2: return -1 - dice(3);
            case 3: return 8 + dice(30);
            default: return dice(9);
        }
    }

    private static GrammarHouse fresh() {
        GrammarHouse house = new GrammarHouse();
        if (grammar != null) {
            Check.read(house, grammar);
            Check.put(house, letters);
            if (picked >= 0) {
                house.pick(picked);
            }
        }
        if (readTape != null && !readTape.equals(grammar)) {
            Check.read(house, readTape);
        }
        house.wipe();
        Check.type(house, tape);
        return house;
    }

    private static void look(String call, GrammarHouse house, long got, long want) {
        CHECK.due(call, got, want);
        CHECK.due("digest() behind " + call, house.digest(), fresh().digest());
    }

    private static int change(GrammarHouse house, String run) {
        switch (dice(9)) {
            case 0: return typeAndRead(house, run);
            case 1: case 2: case 3: case 4: {
                int c = dice(12) == 0 ? number() : dice(3);
                boolean fits = c >= 0 && c < 26 && grammar != null && letters.length() < 8;
                int want = c < 0 || c > 25 ? GrammarHouse.OUTSIDE : grammar == null ? GrammarHouse.STATE
                    : fits ? letters.length() + 1 : GrammarHouse.FULL;
                if (fits) {
                    letters += (char) ('a' + c);
                    picked = -1;
                }
                look(run + "put(" + c + ")", house, house.put(c), want);
                return 2;
            }
            case 5: {
                int n = dice(4) == 0 ? number() : dice(3);
                boolean fits = n >= 0 && n <= letters.length();
                if (fits && grammar != null) {
                    letters = letters.substring(0, letters.length() - n);
                    picked = -1;
                }
                look(run + "back(" + n + ")", house, house.back(n), !fits ? GrammarHouse.OUTSIDE
                    : grammar == null ? GrammarHouse.STATE : letters.length());
                return 2;
            }
            case 6: {
                int seed = dice(5) == 0 ? number() : dice(65536);
                int want = fresh().made(seed);
                int got = house.made(seed);
                if (got >= 0) {
                    picked = -1;
                    letters = "";
                    for (int k = 0; k < got; k++) {
                        letters += (char) ('a' + house.letter(k));
                    }
                }
                look(run + "made(" + seed + ")", house, got, want);
                return 2;
            }
            default: {
                long k = dice(3) == 0 ? 0 : dice(9) == 0 ? x : dice(5) == 0 ? (x >>> 1) % 1000000000000000000L : dice(40);
                int want = fresh().pick(k);
                picked = want > 0 ? k : picked;
                look(run + "pick(" + k + ")", house, house.pick(k), want);
                return 2;
            }
        }
    }

    private static int typeAndRead(GrammarHouse house, String run) {
        String more = TAPES[dice(TAPES.length)];
        int had = tape.length();
        if (dice(8) > 0) {
            tape = "";
            look(run + "wipe()", house, house.wipe(), had);
            CHECK.due(run + "wipe()", house.wipe(), 0);
        }
        Check.type(house, more);
        for (int k = 0; k < more.length(); k += 20) {
            // What does not fit is refused, twenty signs at once.
            String word = more.substring(k, Math.min(more.length(), k + 20));
            tape += tape.length() + word.length() <= 240 ? word : "";
        }
        CHECK.due(run + "type()", house.type(0, 0, 0, 0, 0), tape.length());
        int got = house.read();
        readTape = tape;
        if (got >= 0) {
            grammar = tape;
            letters = "";
            picked = -1;
        }
        GrammarHouse other = new GrammarHouse();
        Check.type(other, tape);
        look(run + "read()", house, got, other.read());
        return 12;
    }

    private static int ask(GrammarHouse house, String run) {
        GrammarHouse other = fresh();
        int a = number();
        int b = number();
        int c = number();
        int d = dice(4) == 0 ? number() : c;
        String of = "(" + a + ", " + b + ", " + c + ", " + d + ")";
        switch (dice(22)) {
            case 0: CHECK.due(run + "sign" + of, house.sign(a), other.sign(a)); break;
            case 1: CHECK.due(run + "fault" + of, house.fault(a), other.fault(a)); break;
            case 2: CHECK.due(run + "sum" + of, house.sum(a), other.sum(a)); break;
            case 3: CHECK.due(run + "name" + of, house.name(a, b), other.name(a, b)); break;
            case 4: CHECK.due(run + "nameSign" + of, house.nameSign(a, b), other.nameSign(a, b)); break;
            case 5: CHECK.due(run + "rule" + of, house.rule(a, b), other.rule(a, b)); break;
            case 6: CHECK.due(run + "part" + of, house.part(a, b), other.part(a, b)); break;
            case 7: CHECK.due(run + "first" + of, house.first(a), other.first(a)); break;
            case 8: CHECK.due(run + "follow" + of, house.follow(a), other.follow(a)); break;
            case 9: CHECK.due(run + "table" + of, house.table(a, b), other.table(a, b)); break;
            case 10: CHECK.due(run + "letter" + of, house.letter(a), other.letter(a)); break;
            case 11: CHECK.due(run + "accepts" + of, house.accepts(a), other.accepts(a)); break;
            case 12: CHECK.due(run + "next" + of, house.next(a), other.next(a)); break;
            case 13: CHECK.due(run + "items" + of, house.items(a), other.items(a)); break;
            case 14: CHECK.due(run + "isItem" + of, house.isItem(a, b, c, d), other.isItem(a, b, c, d)); break;
            case 15: CHECK.due(run + "makes" + of, house.makes(a, b, c), other.makes(a, b, c)); break;
            case 16: CHECK.due(run + "end" + of, house.end(a), other.end(a)); break;
            case 17: CHECK.due(run + "repair" + of, house.repair(), other.repair()); break;
            case 18: CHECK.due(run + "trees" + of, house.trees(a, b, c), other.trees(a, b, c)); break;
            case 19: CHECK.due(run + "step" + of, house.step(a), other.step(a)); break;
            case 20: CHECK.due(run + "deep" + of, house.deep(), other.deep()); break;
            default: CHECK.due(run + "proper" + of, house.proper(a) + 31 * house.properly(b),
                other.proper(a) + 31 * other.properly(b));
        }
        return 1;
    }
}

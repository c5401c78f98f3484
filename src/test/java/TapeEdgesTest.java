/** The sentences that name a boundary in "Terms", "1 Grammars" up to the FAULTS, and promises 1 to 6. */
public final class TapeEdgesTest {
    private static final Check CHECK = new Check();
    private static final int[] FAR = {Integer.MIN_VALUE, -1000, 1000, Integer.MAX_VALUE};

    private TapeEdgesTest() { }

    public static void main(String[] args) {
        newObject();
        objectsShareNothing();
        bytesInOrder();
        zeroBytes();
        noSigns();
        fullTape();
        outsideAheadOfFull();
        wipe();
        sign();
        readAgain();
        faultStays();
        fault();
        names();
        namesToldApart();
        quotes();
        classes();
        otherSigns();
        blanks();
        standing();
        placeOfFaults();
        leastKind();
        firstToken();
        CHECK.close();
    }

    private static void due(String call, long got, long want) {
        CHECK.due(call, got, want);
    }

    private static void newObject() {
        CHECK.about("GrammarHouse(): THE TAPE and THE TEXT are empty; there is no GRAMMAR");
        GrammarHouse house = new GrammarHouse();
        due("type() of nothing", house.type(0, 0, 0, 0, 0), 0);
        due("wipe()", house.wipe(), 0);
        due("sign(0)", house.sign(0), GrammarHouse.UNKNOWN);
        due("back(1)", house.back(1), GrammarHouse.OUTSIDE);
        due("back(0)", house.back(0), GrammarHouse.STATE);
        due("sum(0)", house.sum(0), GrammarHouse.STATE);
        due("sum(4)", house.sum(4), GrammarHouse.STATE);
        due("accepts(0)", house.accepts(0), GrammarHouse.STATE);
        due("repair()", house.repair(), GrammarHouse.STATE);
        due("deep()", house.deep(), GrammarHouse.STATE);
        due("digest()", house.digest(), 17L * 31 * 31 * 31 - 1);
    }

    private static void objectsShareNothing() {
        CHECK.about("a new object is empty, whatever others hold");
        GrammarHouse one = Check.houseOf("S:'a';");
        one.put(0);
        one.pick(0);
        GrammarHouse other = new GrammarHouse();
        due("sign(0)", other.sign(0), GrammarHouse.UNKNOWN);
        due("sum(2)", other.sum(2), GrammarHouse.STATE);
        Check.read(other, "S:'b'|'c';");
        due("part(0, 0) of the one", one.part(0, 0), 1);
        due("sum(2) of the one", one.sum(2), 1);
        due("sum(2) of the other", other.sum(2), 2);
        due("sum(4) of the other", other.sum(4), 0);
        due("step(1) of the one", one.step(1), -1);
        due("step(0) of the other", other.step(0), GrammarHouse.STATE);
    }

    private static void bytesInOrder() {
        CHECK.about("SIGNS come behind those on THE TAPE, four of each number, the lowest byte first");
        GrammarHouse house = new GrammarHouse();
        due("type() of 20", house.type(0x44434241, 0x48474645, 0x4C4B4A49, 0x504F4E4D, 0x54535251), 20);
        due("type() of 4 more", house.type(0, 0, 0, 0, 0x58575655), 24);
        for (int k = 0; k < 24; k++) {
            due("sign(" + k + ")", house.sign(k), 'A' + k);
        }
        due("sign(24)", house.sign(24), GrammarHouse.UNKNOWN);
    }

    private static void zeroBytes() {
        CHECK.about("(0 is passed by): how many there are then");
        for (int k = 0; k < 20; k++) {
            int[] words = new int[5];
            words[k / 4] = 'x' << k % 4 * 8;
            GrammarHouse house = new GrammarHouse();
            due("one at " + k, house.type(words[0], words[1], words[2], words[3], words[4]), 1);
            due("sign(0) of it", house.sign(0), 'x');
        }
        GrammarHouse house = new GrammarHouse();
        due("first and last", house.type('a', 0, 0, 0, 'b' << 24), 2);
        due("sign(1)", house.sign(1), 'b');
        due("none", house.type(0, 0, 0, 0, 0), 2);
    }

    private static void noSigns() {
        CHECK.about("OUTSIDE: one is none. SIGNS, 32 to 126");
        GrammarHouse house = new GrammarHouse();
        Check.type(house, "S");
        for (int k = 0; k < 20; k++) {
            for (int s = 1; s < 256; s++) {
                if (s == 33) {
                    s = 126;
                }
                int[] words = {0x20202020, 0x20202020, 0x20202020, 0x20202020, 0x20202020};
                words[k / 4] = words[k / 4] & ~(255 << k % 4 * 8) | s << k % 4 * 8;
                boolean is = s == 32 || s == 126;
                due("type() with " + s + " at " + k, house.type(words[0], words[1], words[2], words[3], words[4]),
                    is ? 21 : GrammarHouse.OUTSIDE);
                if (is) {
                    due("sign() of it", house.sign(1 + k), s);
                    house.wipe();
                    Check.type(house, "S");
                }
                due("how many there are behind " + s, house.type(0, 0, 0, 0, 0), 1);
            }
        }
        due("the least number", house.type(Integer.MIN_VALUE, 0, 0, 0, 0), GrammarHouse.OUTSIDE);
        due("the greatest number", house.type(Integer.MAX_VALUE, 0, 0, 0, 0), GrammarHouse.OUTSIDE);
        due("-1", house.type(0, 0, 0, 0, -1), GrammarHouse.OUTSIDE);
    }

    private static void fullTape() {
        CHECK.about("THE TAPE has at most 240 SIGNS; FULL; what is refused changes nothing");
        GrammarHouse house = new GrammarHouse();
        for (int k = 1; k <= 12; k++) {
            due("20 more", house.type(0x61616161, 0x62626262, 0x63636363, 0x64646464, 0x65656565), 20 * k);
        }
        due("the last sign", house.sign(239), 'e');
        due("one more", house.type('x', 0, 0, 0, 0), GrammarHouse.FULL);
        due("one more, the last", house.type(0, 0, 0, 0, 'x' << 24), GrammarHouse.FULL);
        due("none more", house.type(0, 0, 0, 0, 0), 240);
        due("sign(240)", house.sign(240), GrammarHouse.UNKNOWN);
        due("wipe()", house.wipe(), 240);
        Check.type(house, "x".repeat(221));
        due("20 to 221", house.type(0x61616161, 0x62626262, 0x63636363, 0x64646464, 0x65656565), GrammarHouse.FULL);
        due("nothing of them came", house.sign(221), GrammarHouse.UNKNOWN);
        due("19 to 221", house.type(0x61616161, 0x62626262, 0x63636363, 0x64646464, 0x656565), 240);
        due("then one", house.type('x', 0, 0, 0, 0), GrammarHouse.FULL);
        due("wipe() again", house.wipe(), 240);
        due("room again", house.type('x', 0, 0, 0, 0), 1);
    }

    private static void outsideAheadOfFull() {
        CHECK.about("of several the first in this order");
        GrammarHouse house = new GrammarHouse();
        Check.type(house, "x".repeat(240));
        due("none, and full", house.type('x', 0, 0, 0, 127), GrammarHouse.OUTSIDE);
        due("none alone", house.type(31, 0, 0, 0, 0), GrammarHouse.OUTSIDE);
        due("full alone", house.type('x', 0, 0, 0, 126), GrammarHouse.FULL);
        due("nothing has changed", house.wipe(), 240);
    }

    private static void wipe() {
        CHECK.about("THE TAPE is emptied (the GRAMMAR stays): how many SIGNS it had");
        GrammarHouse house = Check.houseOf("S:'a'|;");
        house.put(0);
        house.pick(0);
        long ahead = house.digest();
        due("wipe()", house.wipe(), 7);
        due("wipe() of none", house.wipe(), 0);
        due("sign(0)", house.sign(0), GrammarHouse.UNKNOWN);
        due("sum(2)", house.sum(2), 2);
        due("sum(4)", house.sum(4), 1);
        due("step(1)", house.step(1), -1);
        Check.type(house, "S:'a'|;");
        due("digest() with the same signs", house.digest(), ahead);
        house.wipe();
        due("read() of nothing", house.read(), -12);
        due("the grammar stays", house.sum(2), 2);
    }

    private static void sign() {
        CHECK.about("The SIGN at a place of THE TAPE. UNKNOWN (without a GRAMMAR nothing is UNKNOWN but by sign())");
        GrammarHouse house = new GrammarHouse();
        due("of none", house.sign(0), GrammarHouse.UNKNOWN);
        Check.type(house, "ab");
        due("sign(-1)", house.sign(-1), GrammarHouse.UNKNOWN);
        due("sign(0)", house.sign(0), 'a');
        due("sign(1)", house.sign(1), 'b');
        due("sign(2)", house.sign(2), GrammarHouse.UNKNOWN);
        for (int k : FAR) {
            due("sign(" + k + ")", house.sign(k), GrammarHouse.UNKNOWN);
        }
        house.wipe();
        due("sign(0) of what was", house.sign(0), GrammarHouse.UNKNOWN);
        due("name(-1, 0)", house.name(-1, 0), GrammarHouse.STATE);
        due("part(-1, 0)", house.part(-1, 0), GrammarHouse.STATE);
        due("letter(-1)", house.letter(-1), GrammarHouse.STATE);
        due("trees(-1, 0, 0)", house.trees(-1, 0, 0), GrammarHouse.STATE);
        due("step(-1)", house.step(-1), GrammarHouse.STATE);
    }

    private static void readAgain() {
        CHECK.about("in place of the one that is: THE TEXT is empty, no TREE is picked then");
        GrammarHouse house = Check.houseOf("S:A'b';A:'a'*;");
        Check.put(house, "aab");
        due("pick(0)", house.pick(0), 8);
        due("read()", Check.read(house, "T:'c';"), 1);
        due("sum(0)", house.sum(0), 1);
        due("sum(1)", house.sum(1), 1);
        due("sum(2)", house.sum(2), 1);
        due("sum(4)", house.sum(4), 0);
        due("sum(6)", house.sum(6), 0);
        due("step(0)", house.step(0), GrammarHouse.STATE);
        due("letter(0)", house.letter(0), GrammarHouse.UNKNOWN);
        due("rule(1, 0)", house.rule(1, 0), GrammarHouse.UNKNOWN);
        due("name(1, 0)", house.name(1, 0), GrammarHouse.UNKNOWN);
        due("nameSign(0, 0)", house.nameSign(0, 0), 'T');
        due("first(0)", house.first(0), 4);
        due("the tape stays", house.sign(0), 'T');
        due("one is read as often as wanted", house.read(), 1);
    }

    private static void faultStays() {
        CHECK.about("-10 less its FAULT: all but what fault() tells stays");
        String[] bad = {"S:#;", "S:'b'", "S:B B B B B;", "S:;S:;", "S:B;"};
        for (int kind = 1; kind <= 5; kind++) {
            GrammarHouse house = Check.houseOf("S:'a'S|'a';");
            Check.put(house, "aa");
            house.pick(0);
            GrammarHouse same = Check.houseOf("S:'a'S|'a';");
            Check.put(same, "aa");
            same.pick(0);
            due("read() of " + bad[kind - 1], Check.read(house, bad[kind - 1]), -10 - kind);
            due("fault(0)", house.fault(0), kind);
            due("the tape stays", house.wipe(), bad[kind - 1].length());
            for (int what = 0; what <= 6; what++) {
                due("sum(" + what + ")", house.sum(what), same.sum(what));
            }
            due("part(0, 1)", house.part(0, 1), -1);
            due("next(2)", house.next(2), same.next(2));
            due("step(1)", house.step(1), -1);
            due("deep()", house.deep(), 2);
            due("proper(0)", house.proper(0), 2);
            house = new GrammarHouse();
            Check.read(house, bad[kind - 1]);
            due("no grammar stays none", house.sum(2), GrammarHouse.STATE);
        }
    }

    private static void fault() {
        CHECK.about("Of the latest read(): 0 its FAULT, 0 without one; 1 the place of that, NONE. OUTSIDE");
        GrammarHouse house = new GrammarHouse();
        due("fault(0) ahead of all", house.fault(0), 0);
        due("fault(1) ahead of all", house.fault(1), GrammarHouse.NONE);
        Check.read(house, "S:#");
        due("fault(0)", house.fault(0), 1);
        due("fault(1)", house.fault(1), 2);
        Check.read(house, "S:;#");
        due("fault(1) of the latest", house.fault(1), 3);
        Check.read(house, "S:;");
        due("fault(0) behind a good one", house.fault(0), 0);
        due("fault(1) behind a good one", house.fault(1), GrammarHouse.NONE);
        due("fault(-1)", house.fault(-1), GrammarHouse.OUTSIDE);
        due("fault(2)", house.fault(2), GrammarHouse.OUTSIDE);
        for (int what : FAR) {
            due("fault(" + what + ")", house.fault(what), GrammarHouse.OUTSIDE);
        }
    }

    /** A tape whose first fault is due, of a kind and at a place. */
    private static void bad(String tape, int kind, int place) {
        GrammarHouse house = new GrammarHouse();
        due("read() of " + tape, Check.read(house, tape), -10 - kind);
        due("fault(0) of " + tape, house.fault(0), kind);
        due("fault(1) of " + tape, house.fault(1), place);
        due("sum(2) of " + tape, house.sum(2), GrammarHouse.STATE);
    }

    private static GrammarHouse good(String tape, int rules) {
        GrammarHouse house = new GrammarHouse();
        due("read() of " + tape, Check.read(house, tape), rules);
        due("fault(0) of " + tape, house.fault(0), 0);
        due("fault(1) of " + tape, house.fault(1), GrammarHouse.NONE);
        return house;
    }

    private static void names() {
        CHECK.about("a NAME: a capital letter, at once up to two figures; 1: of more than two figures, too");
        good("A:;", 1);
        good("Z:;", 1);
        good("A0:;", 1);
        good("A9:;", 1);
        good("A00:;", 1);
        good("Z99:;", 1);
        bad("A000:;", 1, 0);
        bad("A1234:;", 1, 0);
        bad("S:A123;", 1, 2);
        bad("A:;A999", 1, 3);
        bad("A 1:;", 1, 2);
        bad("A1 2:;", 1, 3);
        bad("1:;", 1, 0);
        bad("a:;", 1, 0);
        bad("@:;", 1, 0);
        good("S:SS0S00;S0:;S00:;", 3);
    }

    private static void namesToldApart() {
        CHECK.about("(NAMES are told apart by their SIGNS: A1 is not A01)");
        GrammarHouse house = good("A:A01 A1 A0 A00;A1:'a';A01:'b';A0:'c';A00:'d';A10:;", 6);
        due("A01", house.part(0, 0), -3);
        due("A1", house.part(0, 1), -2);
        due("A0", house.part(0, 2), -4);
        due("A00", house.part(0, 3), -5);
        bad("A1:A01;", 5, 3);
        bad("A:B;B0:;", 5, 2);
        bad("A01:;A1:;A01:;", 4, 9);
    }

    private static void quotes() {
        CHECK.about("a QUOTE: ', 1 to 3 small letters, '; 1: of more than three letters, too");
        due("one", good("S:'a';", 1).rule(0, 1), 1);
        due("two", good("S:'az';", 1).rule(0, 1), 2);
        due("three", good("S:'zaz';", 1).rule(0, 1), 3);
        bad("S:'';", 1, 2);
        bad("S:'abcd';", 1, 2);
        bad("S:'abcdefghij';", 1, 2);
        bad("S:' a';", 1, 2);
        bad("S:'a ';", 1, 2);
        bad("S:'a b';", 1, 2);
        bad("S:'A';", 1, 2);
        bad("S:'aB';", 1, 2);
        bad("S:'a1';", 1, 2);
        bad("S:'`';", 1, 2);
        bad("S:'{';", 1, 2);
        bad("S:'", 1, 2);
        bad("S:'a", 1, 2);
        bad("S:'abc", 1, 2);
        bad("S:'abc;", 1, 2);
        bad("S:'a'';", 1, 5);
        bad("S:'a''", 1, 5);
        due("two quotes", good("S:'a''b';", 1).rule(0, 1), 2);
    }

    private static void classes() {
        CHECK.about("a CLASS: [, a small letter, -, a small letter, no earlier one, ], all at once");
        due("one letter", good("S:[a-a];", 1).part(0, 0), 1);
        due("the last letter", good("S:[z-z];", 1).part(0, 0), 1 << 25);
        due("all letters", good("S:[a-z];", 1).part(0, 0), 67108863);
        due("two letters", good("S:[m-n];", 1).part(0, 0), 3 << 12);
        bad("S:[b-a];", 1, 2);
        bad("S:[z-a];", 1, 2);
        bad("S:[ a-b];", 1, 2);
        bad("S:[a -b];", 1, 2);
        bad("S:[a- b];", 1, 2);
        bad("S:[a-b ];", 1, 2);
        bad("S:[A-b];", 1, 2);
        bad("S:[a-B];", 1, 2);
        bad("S:[`-b];", 1, 2);
        bad("S:[a-{];", 1, 2);
        bad("S:[a+b];", 1, 2);
        bad("S:[ab];", 1, 2);
        bad("S:[a-b);", 1, 2);
        bad("S:[a-bc];", 1, 2);
        bad("S:[", 1, 2);
        bad("S:[a", 1, 2);
        bad("S:[a-", 1, 2);
        bad("S:[a-b", 1, 2);
        bad("S:a-b];", 1, 2);
    }

    /** Each sign, alone in a row; what has been wiped behind the end is no sign of the tape. */
    private static void otherSigns() {
        CHECK.about("and : ; | ( ) ? * + (blanks, 32): all others are none");
        for (char s = 32; s <= 126; s++) {
            String tape = "S:" + s + ";";
            if (s == ' ' || s == 'S') {
                good(tape, 1);
            } else if (s == '|') {
                good(tape, 2);
            } else if (s >= 'A' && s <= 'Z') {
                bad(tape, 5, 2);
            } else if (s == ';' || s == '(') {
                bad(tape, 2, 3);
            } else if (s == ':' || s == ')' || s == '?' || s == '*' || s == '+') {
                bad(tape, 2, 2);
            } else {
                bad(tape, 1, 2);
            }
        }
        GrammarHouse house = new GrammarHouse();
        Check.type(house, "S:'abc';");
        house.wipe();
        due("read() of S:'ab", Check.read(house, "S:'ab"), -11);
        due("read() of S:'abc", Check.read(house, "S:'abc"), -11);
    }

    private static void blanks() {
        CHECK.about("(blanks, 32, ahead of, between, behind these, as many as wanted)");
        good("S:S[a-b]'ab'|(S)?;A1:;", 6);
        good("  S   :  S  [a-b]  'ab'  |  (  S  )  ?  ;  A1  :  ;  ", 6);
        good(" ".repeat(237) + "S:;", 1);
        good("S:;" + " ".repeat(237), 1);
        good("S" + " ".repeat(237) + ":;", 1);
        bad(" ".repeat(240), 2, 240);
        bad("S:" + " ".repeat(238), 2, 240);
    }

    /** What can stand behind what: the kinds of tokens are N, Q, C, the marks, and $ for the end. */
    private static void standing() {
        CHECK.about("2 it can not stand there");
        String row = "NQC(|";
        String[][] states = {
            {"", "N"}, {"S", ":"}, {"S:", row + ";"}, {"S:S", row + ";?*+"}, {"S:'ab'", row + ";?*+"},
            {"S:[a-b]", row + ";?*+"}, {"S:(S)", row + ";?*+"}, {"S:()", row + ";?*+"}, {"S:S?", row + ";"},
            {"S:'a'*", row + ";"}, {"S:(S)+", row + ";"}, {"S:S|", row + ";"}, {"S:|", row + ";"}, {"S:(", row + ")"},
            {"S:(S", row + ")?*+"}, {"S:(S*", row + ")"}, {"S:(S|", row + ")"}, {"S:((S)", row + ")?*+"},
            {"S:((S)?", row + ")"}, {"S:S(", row + ")"}, {"S:'ab'(S(", row + ")"}, {"S:(S)(", row + ")"}, {"S:;", "N$"}, {"S:S;", "N$"}, {"S:;A", ":"}, {"S:;A:", row + ";"},
        };
        String kinds = "NQC:;|()?*+$";
        String[] tokens = {"B", "'b'", "[b-c]", ":", ";", "|", "(", ")", "?", "*", "+", ""};
        for (String[] state : states) {
            for (int t = 0; t < tokens.length; t++) {
                String tape = state[0] + (tokens[t].isEmpty() ? "" : " " + tokens[t]);
                int place = tokens[t].isEmpty() ? tape.length() : tape.length() - tokens[t].length();
                if (state[1].indexOf(kinds.charAt(t)) < 0) {
                    bad(tape, 2, place);
                } else {
                    GrammarHouse house = new GrammarHouse();
                    Check.read(house, tape);
                    due("can stand: fault(1) of " + tape, house.fault(0) == 2 && house.fault(1) == place ? 1 : 0, 0);
                }
            }
        }
    }

    private static void placeOfFaults() {
        CHECK.about("(the place of its first SIGN; of the end how many SIGNS there are)");
        bad("   #", 1, 3);
        bad("S:  'abcd'  ;", 1, 4);
        bad("S:  A123  ;", 1, 4);
        bad("S:  [b-a]  ;", 1, 4);
        bad("S:  ;  'ab'  ", 2, 7);
        bad("S:  S S S S  'ab' ;", 3, 13);
        bad("S:S S'a'  'abc';", 3, 10);
        bad("S:  ;  S  :  ;", 4, 7);
        bad("S:  (  B  )  ;", 5, 7);
        bad("", 2, 0);
        bad(" ", 2, 1);
        bad("S", 2, 1);
        bad("S:  ", 2, 4);
        bad("S:(", 2, 3);
        bad("S:;S1 ", 2, 6);
    }

    private static void leastKind() {
        CHECK.about("of one TOKEN the least kind");
        // No token, where none could stand.
        bad("S:;'abcd'", 1, 3);
        bad("S A123", 1, 2);
        // What can not stand there would be too much, too.
        bad("S:S S S S:'a';", 2, 9);
        bad("S:" + "|".repeat(20) + ")", 2, 22);
        bad("S:" + "|".repeat(18) + "'a'??", 2, 24);
        bad("A:;B:;C:;D:;E:;F:;G:;H:;(", 2, 24);
        bad("A:;B:;C:;D:;E:;F:;G:;H:;A(", 4, 24);
        // A name told again that can not stand there, or has a fault of its own as a row's part.
        bad("S:S S S S S:;", 3, 10);
        bad("S:;S;", 4, 3);
        bad("S:;S", 4, 3);
        bad("S:;S S", 4, 3);
    }

    private static void firstToken() {
        CHECK.about("FAULTS, the first TOKEN that has one. If there is none of these: 5");
        bad("S:S S S S S #", 3, 10);
        bad("S:);#", 2, 2);
        bad("S:;S:#", 4, 3);
        bad("S:# );", 1, 2);
        bad("S:B;#", 1, 4);
        bad("S:B;;", 2, 4);
        bad("S:B S S S S;", 3, 10);
        bad("S:B;S:;", 4, 4);
        bad("S:B", 2, 3);
        bad("S:B;", 5, 2);
    }
}

/** The sentences that name a boundary in "2 Texts", and promises 15 to 25. */
public final class LetterEdgesTest {
    private static final Check CHECK = new Check();
    private static final int[] FAR = {Integer.MIN_VALUE, -1000, 1000, Integer.MAX_VALUE};

    private LetterEdgesTest() { }

    public static void main(String[] args) {
        put();
        putRefusals();
        back();
        backRefusals();
        seeds();
        draws();
        sixtyDraws();
        eightLetters();
        noText();
        noTextKeeps();
        usefulRulesAreDrawn();
        letter();
        accepts();
        next();
        nextRefusals();
        items();
        itemsAtPlaces();
        isItem();
        isItemRefusals();
        makes();
        makesRefusals();
        end();
        endNone();
        repair();
        repairEdges();
        withoutGrammar();
        CHECK.close();
    }

    private static void due(String call, long got, long want) {
        CHECK.due(call, got, want);
    }

    private static GrammarHouse house(String grammar, String letters) {
        GrammarHouse house = Check.houseOf(grammar);
        Check.put(house, letters);
        return house;
    }

    private static void put() {
        CHECK.about("A LETTER comes behind THE TEXT; no TREE is picked then: how many there are");
        GrammarHouse house = Check.houseOf("S:'a'|'z';");
        due("put(25)", house.put(25), 1);
        due("pick(0)", house.pick(0), 2);
        due("put(0)", house.put(0), 2);
        due("sum(6)", house.sum(6), 0);
        due("step(0)", house.step(0), GrammarHouse.STATE);
        due("letter(0)", house.letter(0), 25);
        due("letter(1)", house.letter(1), 0);
        for (int k = 3; k <= 8; k++) {
            // Letters that no text has come as well.
            due("put(" + k + ")", house.put(k), k);
        }
        due("letter(7)", house.letter(7), 8);
    }

    private static void putRefusals() {
        CHECK.about("put(): OUTSIDE; STATE; FULL. THE TEXT has at most 8 LETTERS");
        GrammarHouse house = house("S:'abc'[a-z]*;", "abcdefg");
        CHECK.refused(house, "put(26)", h -> h.put(26), GrammarHouse.OUTSIDE);
        CHECK.refused(house, "put(-1)", h -> h.put(-1), GrammarHouse.OUTSIDE);
        due("put(7)", house.put(7), 8);
        due("pick(0)", house.pick(0) > 0 ? 1 : 0, 1);
        CHECK.refused(house, "put(0)", h -> h.put(0), GrammarHouse.FULL);
        CHECK.refused(house, "put(25)", h -> h.put(25), GrammarHouse.FULL);
        CHECK.refused(house, "put(26) to a full text", h -> h.put(26), GrammarHouse.OUTSIDE);
        for (int far : FAR) {
            CHECK.refused(house, "put(" + far + ")", h -> h.put(far), GrammarHouse.OUTSIDE);
        }
        due("the tree stays", house.step(0), 0);
        due("sum(4)", house.sum(4), 8);
        due("back(1)", house.back(1), 7);
        due("put(0)", house.put(0), 8);
    }

    private static void back() {
        CHECK.about("The last n LETTERS are taken back; no TREE is picked then: how many are left");
        GrammarHouse house = house("S:[a-z]*;", "abcdefgh");
        due("pick(0)", house.pick(0), 18);
        due("back(0)", house.back(0), 8);
        due("step(0) behind back(0)", house.step(0), GrammarHouse.STATE);
        house.pick(0);
        due("back(1)", house.back(1), 7);
        due("sum(6)", house.sum(6), 0);
        due("letter(6)", house.letter(6), 6);
        due("letter(7)", house.letter(7), GrammarHouse.UNKNOWN);
        due("back(3)", house.back(3), 4);
        due("put(25)", house.put(25), 5);
        due("letter(3)", house.letter(3), 3);
        due("letter(4)", house.letter(4), 25);
        due("back(5)", house.back(5), 0);
        due("letter(0)", house.letter(0), GrammarHouse.UNKNOWN);
        due("back(0) of none", house.back(0), 0);
        house = house("S:[a-z]*;", "abcdefgh");
        due("back(8)", house.back(8), 0);
    }

    private static void backRefusals() {
        CHECK.about("back(): OUTSIDE: n below 0, or more than there are; STATE");
        GrammarHouse house = house("S:'a'*;", "aa");
        house.pick(0);
        CHECK.refused(house, "back(3)", h -> h.back(3), GrammarHouse.OUTSIDE);
        CHECK.refused(house, "back(-1)", h -> h.back(-1), GrammarHouse.OUTSIDE);
        for (int far : FAR) {
            CHECK.refused(house, "back(" + far + ")", h -> h.back(far), GrammarHouse.OUTSIDE);
        }
        due("the tree stays", house.step(0), 0);
        due("back(2)", house.back(2), 0);
        CHECK.refused(house, "back(1) of none", h -> h.back(1), GrammarHouse.OUTSIDE);
        due("back(0) of none", house.back(0), 0);
    }

    private static void seeds() {
        CHECK.about("By a seed x of 0 to 65535. made(): OUTSIDE; STATE");
        GrammarHouse house = Check.houseOf("S:[a-z];");
        due("made(0)", house.made(0), 1);
        due("made(65535)", house.made(65535), 1);
        house.pick(0);
        CHECK.refused(house, "made(-1)", h -> h.made(-1), GrammarHouse.OUTSIDE);
        CHECK.refused(house, "made(65536)", h -> h.made(65536), GrammarHouse.OUTSIDE);
        for (int far : new int[] {Integer.MIN_VALUE, -65536, 131072, Integer.MAX_VALUE}) {
            CHECK.refused(house, "made(" + far + ")", h -> h.made(far), GrammarHouse.OUTSIDE);
        }
        due("the text stays", house.sum(4), 1);
        due("the tree stays", house.sum(6), 2);
    }

    /** From 0: 865, 3046, 1951, 1073, 870; from 1: 2438, 3817, 1262; from 65535: 3388, 2274, 2640. */
    private static void draws() {
        CHECK.about("x becomes (25173 x and 13849) modulo 65536 with each DRAW; a DRAW of n is x by 16, cut, modulo n");
        GrammarHouse house = Check.houseOf("S:[a-z][a-z][a-z][a-z];");
        due("made(0)", house.made(0), 4);
        due("3046 modulo 26", house.letter(0), 4);
        due("1951 modulo 26", house.letter(1), 1);
        due("1073 modulo 26", house.letter(2), 7);
        due("870 modulo 26", house.letter(3), 12);
        due("made(1)", house.made(1), 4);
        due("3817 modulo 26", house.letter(0), 21);
        due("1262 modulo 26", house.letter(1), 14);
        due("made(65535)", house.made(65535), 4);
        due("2274 modulo 26", house.letter(0), 12);
        due("2640 modulo 26", house.letter(1), 14);
        // The one letter of a set of one, and the one rule of a name, take a draw.
        house = Check.houseOf("S:'a'A;A:[a-z];");
        due("made(0) with draws of one", house.made(0), 2);
        due("1073 modulo 26 behind three others", house.letter(1), 7);
        // Rules and letters by a draw of how many there are: 865 modulo 3 is 1, 3046 modulo 3 is 1.
        house = Check.houseOf("S:'x'|[c-e]|'y';");
        due("made(0) of three", house.made(0), 1);
        due("d", house.letter(0), 3);
        due("made(1) of three: 2438 modulo 3 is 2", house.made(1), 1);
        due("y", house.letter(0), 24);
        // The first part that is no letter yet: A is done with ahead of the last set.
        house = Check.houseOf("S:A[a-z];A:[a-z];");
        due("made(0) in order", house.made(0), 2);
        due("1951 modulo 26", house.letter(0), 1);
        due("1073 modulo 26", house.letter(1), 7);
    }

    private static void sixtyDraws() {
        CHECK.about("up to 60 DRAWS. There is no such text, if the 61st would be made");
        // S 1, three A of 1 + 4 (1 + 3) = 17, D 1 + 3, F 1 + 3 make 60; with one E more 61.
        String three = "S:AAAD;A:BBBB;B:EEE;E:;D:EEEF;";
        due("60", Check.houseOf(three + "F:EEE;").made(0), 0);
        due("61", Check.houseOf(three + "F:EEEE;").made(0), GrammarHouse.NONE);
        // The 60th draw is that of a letter; the 61st is.
        due("60, a letter the last", Check.houseOf(three + "F:EE'a';").made(7), 1);
        due("61, a letter the last", Check.houseOf(three + "F:EEE'a';").made(7), GrammarHouse.NONE);
    }

    private static void eightLetters() {
        CHECK.about("or there would be more than 8 LETTERS at the beginning of the row");
        due("eight", Check.houseOf("S:A A;A:'abc''d';").made(3), 8);
        due("nine", Check.houseOf("S:A A'e';A:'abc''d';").made(3), GrammarHouse.NONE);
        due("sixteen", Check.houseOf("S:A A A A;A:'abc''d';").made(3), GrammarHouse.NONE);
        due("eight, then an empty name", Check.houseOf("S:A A B;A:'abc''d';B:;").made(3), 8);
    }

    private static void noText() {
        CHECK.about("or NAME 0 does not END");
        due("NAME 0 does not end", Check.houseOf("S:S;").made(0), GrammarHouse.NONE);
        due("nor with others", Check.houseOf("S:A S;A:'a';").made(0), GrammarHouse.NONE);
        due("OUTSIDE as ever", Check.houseOf("S:S;").made(65536), GrammarHouse.OUTSIDE);
        due("NAME 0 ends", Check.houseOf("S:A S|;A:A;").made(0), 0);
    }

    private static void noTextKeeps() {
        CHECK.about("THE TEXT is made, no TREE is picked then; NONE: (THE TEXT, and what is picked, stay)");
        // 865 modulo 2 is 1, 2438 modulo 2 is 0.
        GrammarHouse house = house("S:'a'|A A'a';A:'abc''d';", "a");
        due("pick(0)", house.pick(0), 2);
        long ahead = house.digest();
        due("made(0)", house.made(0), GrammarHouse.NONE);
        due("digest() as ahead", house.digest(), ahead);
        due("letter(0)", house.letter(0), 0);
        due("step(1)", house.step(1), -1);
        house.back(1);
        Check.put(house, "xyzxyzxy");
        due("made(1)", house.made(1), 1);
        due("letter(0) of the new text", house.letter(0), 0);
        due("sum(4)", house.sum(4), 1);
        due("accepts(1)", house.accepts(1), 1);
        due("pick(0) of the new text", house.pick(0), 2);
        due("made(1) again", house.made(1), 1);
        due("no tree is picked", house.sum(6), 0);
        house = house("S:;", "abc");
        due("the empty text", house.made(9), 0);
        due("sum(4) of it", house.sum(4), 0);
    }

    private static void usefulRulesAreDrawn() {
        CHECK.about("the PARTS of one of its USEFUL RULES, by a DRAW of how many it has");
        // Of the four only 1 and 3 are useful: 865 modulo 2 is 1, 2438 modulo 2 is 0.
        GrammarHouse house = Check.houseOf("S:N|'b'|'c'N|'d';N:N;");
        due("made(0)", house.made(0), 1);
        due("d", house.letter(0), 3);
        due("made(1)", house.made(1), 1);
        due("b", house.letter(0), 1);
    }

    private static void letter() {
        CHECK.about("The LETTER k. UNKNOWN; STATE");
        GrammarHouse house = house("S:;", "zay");
        int[] due = {25, 0, 24};
        for (int k = 0; k < 3; k++) {
            due("letter(" + k + ")", house.letter(k), due[k]);
        }
        CHECK.refused(house, "letter(3)", h -> h.letter(3), GrammarHouse.UNKNOWN);
        CHECK.refused(house, "letter(-1)", h -> h.letter(-1), GrammarHouse.UNKNOWN);
        for (int far : FAR) {
            due("letter(" + far + ")", house.letter(far), GrammarHouse.UNKNOWN);
        }
        house = house("S:;", "abcdefgh");
        due("letter(7)", house.letter(7), 7);
        due("letter(8)", house.letter(8), GrammarHouse.UNKNOWN);
        due("letter(0) of none", Check.houseOf("S:;").letter(0), GrammarHouse.UNKNOWN);
    }

    private static void accepts() {
        CHECK.about("a PLACE is 0 to how many there are. Whether the first k LETTERS are a text. UNKNOWN: PLACE; STATE");
        GrammarHouse house = house("S:'abc'A|'abc'|;A:'def';", "abcdef");
        int[] due = {1, 0, 0, 1, 0, 0, 1};
        for (int k = 0; k <= 6; k++) {
            due("accepts(" + k + ")", house.accepts(k), due[k]);
        }
        CHECK.refused(house, "accepts(7)", h -> h.accepts(7), GrammarHouse.UNKNOWN);
        CHECK.refused(house, "accepts(-1)", h -> h.accepts(-1), GrammarHouse.UNKNOWN);
        for (int far : FAR) {
            due("accepts(" + far + ")", house.accepts(far), GrammarHouse.UNKNOWN);
        }
        house = Check.houseOf("S:'a'*;");
        due("accepts(0) of no letters", house.accepts(0), 1);
        due("accepts(1) of no letters", house.accepts(1), GrammarHouse.UNKNOWN);
        Check.put(house, "aaaaaaaa");
        due("accepts(8)", house.accepts(8), 1);
        due("accepts(9)", house.accepts(9), GrammarHouse.UNKNOWN);
        house = Check.houseOf("S:S;");
        due("accepts(0) of no texts", house.accepts(0), 0);
    }

    private static void next() {
        CHECK.about("next(k): the LETTERS c so that a text begins with the first k LETTERS and c; and THE END, if the"
            + " first k are a text");
        GrammarHouse house = house("S:'ab'|'ac''z'|;", "acz");
        String[] due = {"a$", "bc", "z", "$"};
        for (int k = 0; k <= 3; k++) {
            due("next(" + k + ")", house.next(k), Check.bits(due[k]));
        }
        house.put(0);
        due("next(4) behind what is none", house.next(4), 0);
        due("the end alone", Check.houseOf("S:;").next(0), 67108864);
        due("all letters and the end", Check.houseOf("S:[a-z]*;").next(0), (1 << 27) - 1);
        due("nothing", Check.houseOf("S:S;").next(0), 0);
        // What can not be made to an end is not told.
        due("useful rules alone", Check.houseOf("S:'a'|'b'N|'c'|N'd';N:N;").next(0), Check.bits("ac"));
        // A full text is told as well: longer ones begin with it.
        house = house("S:'ab'*;", "abababab");
        due("next(8)", house.next(8), Check.bits("a$"));
        due("next(7)", house.next(7), Check.bits("b"));
        // The longest way down ahead of a letter.
        house = Check.houseOf("A:B;B:C;C:D;D:E;E:F;F:G;G:H;H:'h'A|;");
        due("next(0) by all names", house.next(0), Check.bits("h$"));
        house.put(7);
        due("next(1) by all names", house.next(1), Check.bits("h$"));
    }

    private static void nextRefusals() {
        CHECK.about("next(): UNKNOWN; STATE");
        GrammarHouse house = house("S:'a'*;", "aa");
        due("next(2)", house.next(2), Check.bits("a$"));
        CHECK.refused(house, "next(3)", h -> h.next(3), GrammarHouse.UNKNOWN);
        CHECK.refused(house, "next(-1)", h -> h.next(-1), GrammarHouse.UNKNOWN);
        for (int far : FAR) {
            due("next(" + far + ")", house.next(far), GrammarHouse.UNKNOWN);
            due("items(" + far + ")", house.items(far), GrammarHouse.UNKNOWN);
            due("end(" + far + ")", house.end(far), GrammarHouse.UNKNOWN);
        }
        house.back(1);
        due("next(2) of what was", house.next(2), GrammarHouse.UNKNOWN);
    }

    private static void items() {
        CHECK.about("How many ITEMS there are at a PLACE. UNKNOWN; STATE");
        // S:; has rule 0 with no parts: one item at 0.
        due("of the empty row", Check.houseOf("S:;").items(0), 1);
        due("of three", Check.houseOf("S:||;").items(0), 3);
        // Rule 0 with 0, 1 and 2 parts.
        GrammarHouse house = house("S:'ab';", "ab");
        for (int k = 0; k <= 2; k++) {
            due("items(" + k + ") of ab", house.items(k), 1);
        }
        CHECK.refused(house, "items(3)", h -> h.items(3), GrammarHouse.UNKNOWN);
        CHECK.refused(house, "items(-1)", h -> h.items(-1), GrammarHouse.UNKNOWN);
        house = house("S:'ab';", "ba");
        due("items(1) of ba", house.items(1), 0);
        due("items(2) of ba", house.items(2), 0);
        // Names that never end have items, too: S and N, with no part made.
        house = house("S:N;N:'a'N;", "a");
        due("items(0) without an end", house.items(0), 2);
        due("items(1) without an end", house.items(1), 2);
        due("isItem(1, 1, 0, 1)", house.isItem(1, 1, 0, 1), 1);
        due("isItem(1, 0, 1, 1)", house.isItem(1, 0, 1, 1), 1);
    }

    private static void itemsAtPlaces() {
        CHECK.about("a PLACE i, k at most: the first d PARTS of r can make the LETTERS from i up to k");
        // S 0: S A; S 1: empty; A 2: 'a'.
        GrammarHouse house = house("S:S A|;A:'a';", "aa");
        // At 0: S with 0 parts and 1, the empty S, A. At 1: A done from 0; S done from 0 and with
        // 1 part; A from 1. At 2: A from 1; S done and with 1 part; A from 2.
        int[] due = {4, 4, 4};
        for (int k = 0; k <= 2; k++) {
            due("items(" + k + ")", house.items(k), due[k]);
        }
        int[][] is = {{0, 0, 0, 0}, {0, 1, 0, 0}, {1, 0, 0, 0}, {2, 0, 0, 0}, {2, 1, 0, 1}, {0, 2, 0, 1}, {0, 1, 0, 1},
            {2, 0, 1, 1}, {2, 1, 1, 2}, {0, 2, 0, 2}, {0, 1, 0, 2}, {2, 0, 2, 2}};
        int[] found = new int[3];
        for (int r = 0; r < 3; r++) {
            for (int d = 0; d <= house.rule(r, 1); d++) {
                for (int i = 0; i <= 2; i++) {
                    for (int k = 0; k <= 2; k++) {
                        int want = 0;
                        for (int[] one : is) {
                            want |= one[0] == r && one[1] == d && one[2] == i && one[3] == k ? 1 : 0;
                        }
                        found[k] += want;
                        due("isItem(" + r + ", " + d + ", " + i + ", " + k + ")", house.isItem(r, d, i, k), want);
                    }
                }
            }
        }
        due("at 2", found[2], 4);
    }

    private static void isItem() {
        CHECK.about("Whether a RULE, d of its PARTS and the PLACE i are an ITEM at a PLACE (0, if i is above k)");
        GrammarHouse house = house("S:|'a'S;", "aa");
        due("i is k", house.isItem(0, 0, 2, 2), 1);
        due("i above k", house.isItem(0, 0, 2, 1), 0);
        due("i above k, all else fits", house.isItem(1, 0, 1, 0), 0);
        due("d is all parts", house.isItem(1, 2, 0, 2), 1);
        due("d is none", house.isItem(1, 0, 0, 0), 1);
        due("d is one, k as i", house.isItem(1, 1, 0, 0), 0);
        // Only where steps lead to a row that has the name right behind what fits.
        house = house("S:'a'B|'b'C;B:'b';C:'b';", "ab");
        due("B behind a", house.isItem(2, 0, 1, 1), 1);
        due("B made", house.isItem(2, 1, 1, 2), 1);
        due("C not behind a", house.isItem(3, 0, 1, 1), 0);
        due("C not made", house.isItem(3, 1, 1, 2), 0);
    }

    private static void isItemRefusals() {
        CHECK.about("UNKNOWN: RULE, i, k; OUTSIDE: d is below 0, or above how many PARTS the RULE has");
        GrammarHouse house = house("S:|'a'S;", "aa");
        CHECK.refused(house, "isItem(2, 0, 0, 0)", h -> h.isItem(2, 0, 0, 0), GrammarHouse.UNKNOWN);
        CHECK.refused(house, "isItem(-1, 0, 0, 0)", h -> h.isItem(-1, 0, 0, 0), GrammarHouse.UNKNOWN);
        CHECK.refused(house, "isItem(0, 0, 3, 0)", h -> h.isItem(0, 0, 3, 0), GrammarHouse.UNKNOWN);
        CHECK.refused(house, "isItem(0, 0, -1, 0)", h -> h.isItem(0, 0, -1, 0), GrammarHouse.UNKNOWN);
        CHECK.refused(house, "isItem(0, 0, 0, 3)", h -> h.isItem(0, 0, 0, 3), GrammarHouse.UNKNOWN);
        CHECK.refused(house, "isItem(0, 0, 0, -1)", h -> h.isItem(0, 0, 0, -1), GrammarHouse.UNKNOWN);
        CHECK.refused(house, "isItem(0, 1, 0, 0)", h -> h.isItem(0, 1, 0, 0), GrammarHouse.OUTSIDE);
        CHECK.refused(house, "isItem(1, 3, 0, 0)", h -> h.isItem(1, 3, 0, 0), GrammarHouse.OUTSIDE);
        CHECK.refused(house, "isItem(1, -1, 0, 0)", h -> h.isItem(1, -1, 0, 0), GrammarHouse.OUTSIDE);
        CHECK.refused(house, "isItem(1, 3, 2, 0)", h -> h.isItem(1, 3, 2, 0), GrammarHouse.OUTSIDE);
        CHECK.refused(house, "isItem(1, -1, 3, 0)", h -> h.isItem(1, -1, 3, 0), GrammarHouse.UNKNOWN);
        CHECK.refused(house, "isItem(2, -1, 0, 0)", h -> h.isItem(2, -1, 0, 0), GrammarHouse.UNKNOWN);
        for (int far : FAR) {
            due("isItem(" + far + ", 0, 0, 0)", house.isItem(far, 0, 0, 0), GrammarHouse.UNKNOWN);
            due("isItem(0, " + far + ", 0, 0)", house.isItem(0, far, 0, 0), GrammarHouse.OUTSIDE);
            due("isItem(0, 0, " + far + ", 0)", house.isItem(0, 0, far, 0), GrammarHouse.UNKNOWN);
            due("isItem(0, 0, 0, " + far + ")", house.isItem(0, 0, 0, far), GrammarHouse.UNKNOWN);
        }
    }

    private static void makes() {
        CHECK.about("Whether a NAME makes the LETTERS from i up to j");
        GrammarHouse house = house("S:'a'A'b'|;A:S A|'c';B:'c';", "acb");
        due("all", house.makes(0, 0, 3), 1);
        due("none, at the beginning", house.makes(0, 0, 0), 1);
        due("none, at the end", house.makes(0, 3, 3), 1);
        due("A of none", house.makes(1, 3, 3), 0);
        due("A within", house.makes(1, 1, 2), 1);
        due("A more", house.makes(1, 1, 3), 0);
        due("A, S ahead", house.makes(1, 0, 2), 0);
        due("B is not reached", house.makes(2, 1, 2), 1);
        due("B elsewhere", house.makes(2, 0, 1), 0);
        house = house("S:S S|'a'|'b'S'b'|;", "abbaabab");
        due("all eight", house.makes(0, 0, 8), 1);
        due("the last seven", house.makes(0, 1, 8), 1);
        due("the first seven: three b", house.makes(0, 0, 7), 0);
    }

    private static void makesRefusals() {
        CHECK.about("makes(): UNKNOWN: NAME, i, j; OUTSIDE: i above j; STATE");
        GrammarHouse house = house("S:'a'*;", "aa");
        CHECK.refused(house, "makes(2, 0, 0)", h -> h.makes(2, 0, 0), GrammarHouse.UNKNOWN);
        CHECK.refused(house, "makes(-1, 0, 0)", h -> h.makes(-1, 0, 0), GrammarHouse.UNKNOWN);
        CHECK.refused(house, "makes(0, 3, 3)", h -> h.makes(0, 3, 3), GrammarHouse.UNKNOWN);
        CHECK.refused(house, "makes(0, -1, 0)", h -> h.makes(0, -1, 0), GrammarHouse.UNKNOWN);
        CHECK.refused(house, "makes(0, 0, 3)", h -> h.makes(0, 0, 3), GrammarHouse.UNKNOWN);
        CHECK.refused(house, "makes(0, 0, -1)", h -> h.makes(0, 0, -1), GrammarHouse.UNKNOWN);
        CHECK.refused(house, "makes(0, 2, 1)", h -> h.makes(0, 2, 1), GrammarHouse.OUTSIDE);
        CHECK.refused(house, "makes(2, 2, 1)", h -> h.makes(2, 2, 1), GrammarHouse.UNKNOWN);
        CHECK.refused(house, "makes(0, 3, 1)", h -> h.makes(0, 3, 1), GrammarHouse.UNKNOWN);
        due("makes(1, 2, 2)", house.makes(1, 2, 2), 1);
        for (int far : FAR) {
            due("makes(" + far + ", 0, 0)", house.makes(far, 0, 0), GrammarHouse.UNKNOWN);
            due("makes(0, " + far + ", 0)", house.makes(0, far, 0), GrammarHouse.UNKNOWN);
            due("makes(0, 0, " + far + ")", house.makes(0, 0, far), GrammarHouse.UNKNOWN);
        }
    }

    private static void end() {
        CHECK.about("end(k): the least number of LETTERS that, behind the first k, make a text. UNKNOWN; STATE");
        GrammarHouse house = house("S:'ab''cd'|'abc'S;", "abca");
        int[] due = {4, 3, 2, 1, 3};
        for (int k = 0; k <= 4; k++) {
            due("end(" + k + ")", house.end(k), due[k]);
        }
        CHECK.refused(house, "end(5)", h -> h.end(5), GrammarHouse.UNKNOWN);
        CHECK.refused(house, "end(-1)", h -> h.end(-1), GrammarHouse.UNKNOWN);
        due("0 of the empty text", Check.houseOf("S:;").end(0), 0);
        // More than 8 letters are told as well: 65536 is the greatest least.
        String most = "A:BBBB;B:CCCC;C:DDDD;D:EEEE;E:FFFF;F:GGGG;G:HHHH;H:'abc'[d-z];";
        house = house(most, "abczabcd");
        for (int k = 0; k <= 8; k++) {
            due("end(" + k + ") of the greatest least", house.end(k), 65536 - k);
        }
    }

    private static void endNone() {
        CHECK.about("NONE: nothing will do");
        due("no texts", Check.houseOf("S:S;").end(0), GrammarHouse.NONE);
        GrammarHouse house = house("S:'ab'|'c'N;N:N'd';", "ac");
        due("end(1)", house.end(1), 1);
        due("end(2)", house.end(2), GrammarHouse.NONE);
        house = house("S:'ab'|'c'N;N:N'd';", "c");
        due("by a rule that is not useful", house.end(1), GrammarHouse.NONE);
        house = house("S:;", "a");
        due("behind the empty text", house.end(1), GrammarHouse.NONE);
        due("the empty text", house.end(0), 0);
    }

    private static void repaired(String grammar, String letters, int want) {
        due("repair() of " + letters + " in " + grammar, house(grammar, letters).repair(), want);
    }

    private static void repair() {
        CHECK.about("repair(): the least number of LETTERS dropped, put in, or made another one, together");
        repaired("S:'abc';", "abc", 0);
        repaired("S:'abc';", "abcd", 1);
        repaired("S:'abc';", "xabc", 1);
        repaired("S:'abc';", "bc", 1);
        repaired("S:'abc';", "ab", 1);
        repaired("S:'abc';", "abd", 1);
        repaired("S:'abc';", "xyz", 3);
        repaired("S:'abc';", "xyzxyzxy", 8);
        repaired("S:'abc';", "xaybzcw", 4);
        repaired("S:'abc'A|'ab';A:'def';", "bcdef", 1);
        repaired("S:'ab'*;", "ba", 2);
        repaired("S:'ab'+;", "bababa", 2);
        repaired("S:[a-c];", "d", 1);
        repaired("S:'a'S'a'|'b';", "aabaaaa", 2);
    }

    private static void repairEdges() {
        CHECK.about("What it takes at least to put THE TEXT right; NONE: the GRAMMAR has no texts. STATE");
        repaired("S:S;", "", GrammarHouse.NONE);
        repaired("S:S'a';", "aaaaaaaa", GrammarHouse.NONE);
        repaired("S:;", "", 0);
        repaired("S:;", "a", 1);
        repaired("S:;", "abcdefgh", 8);
        repaired("S:A A;A:;", "abcdefgh", 8);
        repaired("S:'abc';", "", 3);
        String most = "A:BBBB;B:CCCC;C:DDDD;D:EEEE;E:FFFF;F:GGGG;G:HHHH;H:'abc'[d-z];";
        repaired(most, "", 65536);
        repaired(most, "z", 65535);
        repaired(most, "abcdabcd", 65528);
        repaired(most, "aaaaaaaa", 65528);
        repaired(most, "dcba", 65532);
        // No use of N; the way over it would be the shorter one.
        repaired("S:'abc'|N;N:N'x'|'x'N;", "x", 3);
    }

    private static void withoutGrammar() {
        CHECK.about("STATE (there is no GRAMMAR); without a GRAMMAR nothing is UNKNOWN; d by its least alone");
        GrammarHouse house = new GrammarHouse();
        for (int n : new int[] {Integer.MIN_VALUE, -1, 0, 1, 9, 26, Integer.MAX_VALUE}) {
            due("put(" + n + ")", house.put(n), n >= 0 && n < 26 ? GrammarHouse.STATE : GrammarHouse.OUTSIDE);
            due("back(" + n + ")", house.back(n), n == 0 ? GrammarHouse.STATE : GrammarHouse.OUTSIDE);
            boolean seed = n >= 0 && n <= 26;
            due("made(" + n + ")", house.made(n), seed ? GrammarHouse.STATE : GrammarHouse.OUTSIDE);
            due("letter(" + n + ")", house.letter(n), GrammarHouse.STATE);
            due("accepts(" + n + ")", house.accepts(n), GrammarHouse.STATE);
            due("next(" + n + ")", house.next(n), GrammarHouse.STATE);
            due("items(" + n + ")", house.items(n), GrammarHouse.STATE);
            due("end(" + n + ")", house.end(n), GrammarHouse.STATE);
            due("isItem(n, 0, n, n)", house.isItem(n, 0, n, n), GrammarHouse.STATE);
            due("isItem(n, most, n, n)", house.isItem(n, Integer.MAX_VALUE, n, n), GrammarHouse.STATE);
            due("isItem(n, -1, n, n)", house.isItem(n, -1, n, n), GrammarHouse.OUTSIDE);
            due("makes(n, n, n)", house.makes(n, n, n), GrammarHouse.STATE);
            due("makes(n, 1, 0)", house.makes(n, 1, 0), GrammarHouse.OUTSIDE);
            due("makes(n, -1, 9)", house.makes(n, -1, 9), GrammarHouse.STATE);
        }
        due("made(65535)", house.made(65535), GrammarHouse.STATE);
        due("made(65536)", house.made(65536), GrammarHouse.OUTSIDE);
        due("repair()", house.repair(), GrammarHouse.STATE);
        due("digest()", house.digest(), new GrammarHouse().digest());
    }
}

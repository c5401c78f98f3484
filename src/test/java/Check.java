/** Counts answers that are not the ones that are due, and prints them. */
final class Check {
    private int right;
    private int wrong;
    private String sentence = "";
    private int told;

    /** The sentence of the document that the calls from here on look at; each needs an answer. */
    void about(String words) {
        if (!sentence.isEmpty() && right + wrong == told) {
            due("nothing is looked at", 0, 1);
        }
        sentence = words;
        told = right + wrong;
    }

    void due(String call, long got, long want) {
        if (got == want) {
            right++;
            return;
        }
        wrong++;
        if (wrong <= 50) {
            System.out.println((sentence.isEmpty() ? "" : "[" + sentence + "] ") + call + " answered " + got
                + ", due is " + want);
        }
    }

    /** A call that is refused with some number, and changes nothing that digest() tells. */
    void refused(GrammarHouse house, String call, Call one, long want) {
        long ahead = house.digest();
        due(call, one.answer(house), want);
        due("digest() behind " + call, house.digest(), ahead);
    }

    /** A call that is made later. */
    interface Call {
        long answer(GrammarHouse house);
    }

    /** Ends the program: with 1 if an answer was wrong, or none was looked at. */
    void close() {
        System.out.println(right + " answers right, " + wrong + " wrong");
        System.exit(wrong == 0 && right > 0 ? 0 : 1);
    }

    /** Types all signs of a text, twenty with each call; what the last call answered. */
    static int type(GrammarHouse house, String signs) {
        int answer = house.type(0, 0, 0, 0, 0);
        for (int at = 0; at < signs.length(); at += 20) {
            int[] words = new int[5];
            for (int k = at; k < Math.min(at + 20, signs.length()); k++) {
                words[(k - at) / 4] |= signs.charAt(k) << (k - at) % 4 * 8;
            }
            answer = house.type(words[0], words[1], words[2], words[3], words[4]);
        }
        return answer;
    }

    /** Reads a grammar from a tape that has nothing else: what read() answered. */
    static int read(GrammarHouse house, String signs) {
        house.wipe();
        type(house, signs);
        return house.read();
    }

    /** A new object with a grammar. */
    static GrammarHouse houseOf(String signs) {
        GrammarHouse house = new GrammarHouse();
        read(house, signs);
        return house;
    }

    /** Puts letters behind the text: how many there are then. */
    static int put(GrammarHouse house, String letters) {
        int answer = GrammarHouse.NONE;
        for (int k = 0; k < letters.length(); k++) {
            answer = house.put(letters.charAt(k) - 'a');
        }
        return answer;
    }

    /** Letters, and $ for the end, as bits. */
    static int bits(String letters) {
        int bits = 0;
        for (int k = 0; k < letters.length(); k++) {
            bits |= letters.charAt(k) == '$' ? 1 << 26 : 1 << letters.charAt(k) - 'a';
        }
        return bits;
    }
}

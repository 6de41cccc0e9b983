// What the tests of the project share. Tests have no package, as TokenSuite has none, and what has
// no package can't be imported: so a test takes these by extending this class.
abstract class Checks {
    static final int BAD = TokenSuite.BAD;
    static final int NONE = TokenSuite.NONE;
    static final int FULL = TokenSuite.FULL;

    static final int MOST_WORDS = 12;
    static final int MOST_WORD_LETTERS = 8;
    static final int MOST_TEXT = 12;
    static final int MOST_TOKENS = 20;

    private static int wrong = 0;
    private static int sentences = 0;
    private static String tested = "";

    /** Runs the test of one sentence of the document; what is wrong there is told with it. */
    static void sentence(String place, String words, Runnable test) {
        sentences++;
        tested = place + " \"" + words + "\": ";
        if (!Document.says(place, words)) {
            wrong++;
            System.out.println(tested + "the document has no such words there");
        }
        test.run();
        tested = "";
    }

    static void due(String what, int got, int want) {
        if (got != want) {
            wrong++;
            System.out.println(tested + what + " answered " + got + ", due is " + want);
        }
    }

    static void due(String what, String got, String want) {
        if (!got.equals(want)) {
            wrong++;
            System.out.println(tested + what + " gave " + got + ", due is " + want);
        }
    }

    static void end() {
        if (wrong > 0) {
            System.exit(1);
        }
        System.out.println("all holds that was tested" + (sentences > 0 ? ", sentences: " + sentences : ""));
    }

    static void add(TokenSuite suite, int count, String letters) {
        suite.word(count);
        for (char letter : letters.toCharArray()) {
            suite.spell(letter - '0');
        }
    }

    static void retype(TokenSuite suite, String letters) {
        suite.wipe();
        for (char letter : letters.toCharArray()) {
            suite.type(letter - '0');
        }
    }

    static String result(TokenSuite suite) {
        StringBuilder row = new StringBuilder();
        for (int i = 0; i < suite.size(); i++) {
            row.append(i == 0 ? "" : " ").append(suite.at(i));
        }
        return row.toString();
    }

    static String splitOf(TokenSuite suite, String letters, int way) {
        retype(suite, letters);
        suite.split(way);
        return result(suite);
    }

    static String rankedSplit(TokenSuite suite, int k) {
        StringBuilder row = new StringBuilder();
        for (int i = 0; i < MOST_TEXT && suite.rankedAt(k, i) >= 0; i++) {
            row.append(i == 0 ? "" : " ").append(suite.rankedAt(k, i));
        }
        return row.toString();
    }

    static String spelled(TokenSuite suite, int x) {
        StringBuilder row = new StringBuilder();
        for (int i = 0; i < suite.length(x); i++) {
            row.append(suite.letter(x, i));
        }
        return row.toString();
    }

    static void learn(TokenSuite suite, int times) {
        for (int i = 0; i < times; i++) {
            suite.learn();
        }
    }

    static void dropWords(TokenSuite suite, int times) {
        for (int i = 0; i < times; i++) {
            suite.dropWord();
        }
    }

    /**
     * Numbers that lie outside least .. most: next to them, far away, and such that only their low
     * bits, or their product with a small number, lie inside.
     */
    static int[] outside(int least, int most) {
        return new int[] {
            least - 1, most + 1, least - 2, most + 2, -least - 7, most + 1000,
            least + 0x100, most + 0x100, least + 0x10000, most + 0x10000,
            least + 0x10000000, most + 0x20000000, least + 0x40000000, most - 0x40000000,
            least + Integer.MIN_VALUE, most + Integer.MIN_VALUE, Integer.MAX_VALUE, Integer.MIN_VALUE,
        };
    }

    /** Tokens 6 = 1 2 and 7 = 0 1, which compete for the 1 of a text 0 1 2. */
    static TokenSuite competing() {
        TokenSuite suite = new TokenSuite();
        add(suite, 5, "12");
        add(suite, 4, "01");
        learn(suite, 2);
        return suite;
    }

    /** Token 6 = 0 0, with the word 0 0 of count 2. */
    static TokenSuite doubled() {
        TokenSuite suite = new TokenSuite();
        add(suite, 2, "00");
        suite.learn();
        return suite;
    }

    /** Tokens 6 = 0 1 and 7 = 6 2, with the word 0 1 2 of count 2. */
    static TokenSuite nested() {
        TokenSuite suite = new TokenSuite();
        add(suite, 2, "012");
        learn(suite, 2);
        return suite;
    }

    /** Tokens 6 = 0 0, 7 = 6 6, 8 = 7 7: eight letters, the whole of the one word, of count 2. */
    static TokenSuite eightLong() {
        TokenSuite suite = new TokenSuite();
        add(suite, 2, "00000000");
        learn(suite, 3);
        return suite;
    }

    /** No words; one token of each length 1 .. 8 that spells letters 0 alone. */
    static TokenSuite everyLength() {
        TokenSuite suite = eightLong();
        suite.dropWord();
        for (String letters : new String[] {"000", "00000", "000000", "0000000"}) {
            add(suite, 2, letters);
            suite.learn();
            suite.dropWord();
        }
        return suite;
    }

    /** Thirteen learned tokens, and seven words in which just one more pair can be learned. */
    static TokenSuite oneShort() {
        TokenSuite suite = new TokenSuite();
        for (String letters : new String[] {"012", "034", "051", "020", "130", "142", "253"}) {
            add(suite, 3, letters);
        }
        learn(suite, 13);
        return suite;
    }

    /** Fourteen learned tokens, and twelve words in which the pair 5 5 could still be learned. */
    static TokenSuite allLearned() {
        TokenSuite suite = oneShort();
        suite.learn();
        for (int i = 0; i < 5; i++) {
            add(suite, 3, "55");
        }
        return suite;
    }
}

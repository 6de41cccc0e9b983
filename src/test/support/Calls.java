/** The methods of the class by number, for tests that pick their calls. */
final class Calls {
    static final String[] NAMES = {"word", "spell", "dropWord", "learn", "unlearn", "frequency", "tokens",
        "left", "right", "length", "letter", "price", "type", "wipe", "split", "size", "at", "cost", "ways",
        "ranked", "rankedAt", "load", "expense", "worth"};

    // The same numbers each time: they come from a fixed start.
    private static long state = 20261115L;

    private Calls() {
    }

    static int pick(int bound) {
        state = state * 6364136223846793005L + 1442695040888963407L;
        return (int) ((state >>> 33) % bound);
    }

    static int pickBetween(int least, int most) {
        return least + pick(most - least + 1);
    }

    /** A number far outside of all that is good: at the ends of int, or such that its low bits are small. */
    static int pickFar() {
        int[] far = {Integer.MIN_VALUE, Integer.MAX_VALUE, 0x40000000, -0x40000000, 0x10000, -0x10000, 1000, -1000};
        return far[pick(far.length)] + pickBetween(-20, 20);
    }

    /** A method that has fewer arguments takes no notice of the others. */
    static int call(TokenSuite suite, int method, int a, int b) {
        switch (method) {
            case 0: return suite.word(a);
            case 1: return suite.spell(a);
            case 2: return suite.dropWord();
            case 3: return suite.learn();
            case 4: return suite.unlearn();
            case 5: return suite.frequency(a, b);
            case 6: return suite.tokens();
            case 7: return suite.left(a);
            case 8: return suite.right(a);
            case 9: return suite.length(a);
            case 10: return suite.letter(a, b);
            case 11: return suite.price(a, b);
            case 12: return suite.type(a);
            case 13: return suite.wipe();
            case 14: return suite.split(a);
            case 15: return suite.size();
            case 16: return suite.at(a);
            case 17: return suite.cost();
            case 18: return suite.ways();
            case 19: return suite.ranked(a);
            case 20: return suite.rankedAt(a, b);
            case 21: return suite.load(a);
            case 22: return suite.expense();
            default: return suite.worth(a);
        }
    }
}

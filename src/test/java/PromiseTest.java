// One method for each promise of the document: ordinary inputs, the named edges, wrong inputs.
public final class PromiseTest extends Checks {
    private static final int[] FAR = {Integer.MIN_VALUE, -1, 20, 1000, Integer.MAX_VALUE};

    private static void promise1NewObject() {
        due("BAD", TokenSuite.BAD, -1);
        due("NONE", TokenSuite.NONE, -2);
        due("FULL", TokenSuite.FULL, -3);
        TokenSuite suite = new TokenSuite();
        due("1 tokens", suite.tokens(), 6);
        due("1 size", suite.size(), 0);
        due("1 at", suite.at(0), NONE);
        due("1 cost", suite.cost(), 0);
        due("1 ways", suite.ways(), 1);
        due("1 ranked", suite.ranked(0), 0);
        due("1 expense", suite.expense(), 0);
        due("1 load", suite.load(0), 0);
        due("1 frequency", suite.frequency(0, 0), 0);
        due("1 unlearn", suite.unlearn(), NONE);
        due("1 dropWord", suite.dropWord(), NONE);
        due("1 wipe", suite.wipe(), 0);
        for (int x = 0; x < 6; x++) {
            due("1 price of " + x, suite.price(x, 20), 20);
            due("1 letters of " + x, spelled(suite, x), "" + x);
        }
        add(suite, 2, "00");
        suite.learn();
        suite.type(1);
        TokenSuite other = new TokenSuite();
        due("1 tokens of another", other.tokens(), 6);
        due("1 wipe of another", other.wipe(), 0);
        due("1 dropWord of another", other.dropWord(), NONE);
    }

    private static void promise2Word() {
        TokenSuite suite = new TokenSuite();
        due("2 word(0)", suite.word(0), BAD);
        due("2 word(51)", suite.word(51), BAD);
        due("2 word(-1)", suite.word(-1), BAD);
        due("2 word(MIN)", suite.word(Integer.MIN_VALUE), BAD);
        due("2 word(MAX)", suite.word(Integer.MAX_VALUE), BAD);
        due("2 word(1)", suite.word(1), 1);
        due("2 word(50)", suite.word(50), 2);
        suite.spell(3);
        due("2 load, counts", suite.load(0), 50);
        for (int i = 3; i <= 12; i++) {
            due("2 word " + i, suite.word(2), i);
        }
        due("2 a new word is empty", suite.load(0), 50);
        due("2 thirteenth", suite.word(2), FULL);
        due("2 thirteenth and bad", suite.word(51), BAD);
        due("2 still twelve", suite.dropWord(), 11);
        due("2 room again", suite.word(2), 12);
    }

    private static void promise3Spell() {
        TokenSuite suite = new TokenSuite();
        due("3 bad without a word", suite.spell(6), BAD);
        due("3 without a word", suite.spell(0), NONE);
        suite.word(1);
        for (int i = 0; i < 8; i++) {
            due("3 letter " + i, suite.spell(i % 6), i + 1);
        }
        due("3 ninth", suite.spell(0), FULL);
        due("3 ninth and bad", suite.spell(-1), BAD);
        due("3 bad MIN", suite.spell(Integer.MIN_VALUE), BAD);
        due("3 bad MAX", suite.spell(Integer.MAX_VALUE), BAD);
        due("3 load", suite.load(0), 8);
        due("3 twice", suite.frequency(0, 1), 2);
        due("3 once", suite.frequency(5, 0), 1);
        suite.word(1);
        due("3 goes to the last word", suite.spell(4), 1);
    }

    private static void promise4DropWord() {
        TokenSuite suite = new TokenSuite();
        due("4 none", suite.dropWord(), NONE);
        add(suite, 3, "01");
        add(suite, 5, "0123");
        due("4 one left", suite.dropWord(), 1);
        due("4 the last one went", suite.frequency(0, 1), 3);
        due("4 the one before is the last now", suite.spell(2), 3);
        due("4 no letters stay", suite.word(7), 2);
        due("4 first letter again", suite.spell(5), 1);
        suite.dropWord();
        due("4 none left", suite.dropWord(), 0);
        due("4 none again", suite.dropWord(), NONE);
        due("4 empty load", suite.load(0), 0);
    }

    private static void promise5Learn() {
        TokenSuite suite = new TokenSuite();
        due("5 without words", suite.learn(), NONE);
        add(suite, 1, "01");
        due("5 frequency 1", suite.learn(), NONE);
        add(suite, 1, "01");
        due("5 frequency 2", suite.learn(), 6);
        due("5 left", suite.left(6), 0);
        due("5 right", suite.right(6), 1);
        due("5 price", suite.price(6, 25), 25);
        due("5 nothing more", suite.learn(), NONE);
        due("5 tokens", suite.tokens(), 7);
        suite.dropWord();
        suite.dropWord();
        due("5 stays without its words", spelled(suite, 6), "01");

        suite = new TokenSuite();
        add(suite, 3, "21");
        add(suite, 3, "13");
        add(suite, 3, "12");
        add(suite, 4, "55");
        String[] order = {"55", "12", "13", "21"};
        for (int i = 0; i < order.length; i++) {
            due("5 in order", suite.learn(), 6 + i);
            due("5 in order " + i, spelled(suite, 6 + i), order[i]);
        }

        suite = new TokenSuite();
        add(suite, 1, "12");
        add(suite, 1, "000");
        due("5 overlap counts", suite.learn(), 6);
        due("5 overlap", spelled(suite, 6), "00");

        suite = new TokenSuite();
        add(suite, 1, "0101");
        suite.learn();
        due("5 goes by merged words", suite.learn(), NONE);
        add(suite, 1, "0101");
        due("5 made of learned ones", suite.learn(), 7);
        due("5 left of 7", suite.left(7), 6);
        due("5 right of 7", suite.right(7), 6);

        suite = allLearned();
        due("5 all tokens", suite.tokens(), 20);
        due("5 a fifteenth", suite.learn(), FULL);
        due("5 still all", suite.tokens(), 20);
        for (int i = 0; i < 5; i++) {
            suite.dropWord();
        }
        due("5 none comes ahead of full", suite.learn(), NONE);
    }

    private static void promise6Unlearn() {
        TokenSuite suite = nested();
        suite.price(7, 3);
        due("6 the last", suite.unlearn(), 7);
        due("6 it is gone", suite.left(7), BAD);
        due("6 the other stays", suite.left(6), 0);
        due("6 pair is back", suite.frequency(6, 2), 2);
        due("6 again", suite.learn(), 7);
        due("6 with the first price", suite.price(7, 25), 25);
        suite.unlearn();
        due("6 all", suite.unlearn(), 6);
        due("6 none", suite.unlearn(), NONE);
        due("6 letters stay", suite.tokens(), 6);
        due("6 letters again", suite.frequency(0, 1), 2);
    }

    private static void promise7Frequency() {
        TokenSuite suite = new TokenSuite();
        add(suite, 3, "0000");
        add(suite, 5, "1001");
        add(suite, 50, "0");
        add(suite, 50, "");
        due("7 overlapping", suite.frequency(0, 0), 3 * 3 + 5);
        due("7 in this order", suite.frequency(1, 0), 5);
        due("7 and in that", suite.frequency(0, 1), 5);
        due("7 not at all", suite.frequency(1, 1), 0);
        due("7 no such token yet", suite.frequency(6, 6), BAD);
        suite.learn();
        due("7 merged", suite.frequency(0, 0), 0);
        due("7 of learned ones", suite.frequency(6, 6), 3);
        due("7 of both kinds", suite.frequency(1, 6), 5);
        due("7 of both kinds", suite.frequency(6, 1), 5);
        due("7 not next to each other", suite.frequency(0, 6), 0);
        for (int x : FAR) {
            due("7 x bad", suite.frequency(x, 0), BAD);
            due("7 y bad", suite.frequency(0, x), BAD);
        }
        due("7 first unused number", suite.frequency(7, 0), BAD);
        due("7 first unused number", suite.frequency(0, 7), BAD);

        TokenSuite most = new TokenSuite();
        for (int i = 0; i < 12; i++) {
            add(most, 50, "33333333");
        }
        due("7 the greatest", most.frequency(3, 3), 12 * 50 * 7);
    }

    private static void promise8Tokens() {
        TokenSuite suite = nested();
        due("8 two learned", suite.tokens(), 8);
        suite.unlearn();
        due("8 one learned", suite.tokens(), 7);
        due("8 all", allLearned().tokens(), 20);
    }

    private static void promises9And10LeftAndRight() {
        TokenSuite suite = nested();
        due("9 of 6", suite.left(6), 0);
        due("10 of 6", suite.right(6), 1);
        due("9 of 7", suite.left(7), 6);
        due("10 of 7", suite.right(7), 2);
        for (int x = 0; x < 6; x++) {
            due("9 of a letter", suite.left(x), NONE);
            due("10 of a letter", suite.right(x), NONE);
        }
        for (int x : FAR) {
            due("9 bad", suite.left(x), BAD);
            due("10 bad", suite.right(x), BAD);
        }
        due("9 first unused", suite.left(8), BAD);
        due("10 first unused", suite.right(8), BAD);
    }

    private static void promises11And12LengthAndLetter() {
        TokenSuite suite = nested();
        due("11 of a letter", suite.length(5), 1);
        due("11 of 6", suite.length(6), 2);
        due("11 of 7", suite.length(7), 3);
        due("12 of a letter", suite.letter(5, 0), 5);
        due("12 behind a letter", suite.letter(5, 1), NONE);
        due("12 of 6", spelled(suite, 6), "01");
        due("12 of 7", spelled(suite, 7), "012");
        due("12 behind", suite.letter(7, 3), NONE);
        due("12 ahead", suite.letter(7, -1), NONE);
        due("12 far behind", suite.letter(7, Integer.MAX_VALUE), NONE);
        due("12 far ahead", suite.letter(7, Integer.MIN_VALUE), NONE);
        for (int x : FAR) {
            due("11 bad", suite.length(x), BAD);
            due("12 bad", suite.letter(x, 0), BAD);
            due("12 both bad", suite.letter(x, -1), BAD);
        }
        due("11 first unused", suite.length(8), BAD);
        due("12 first unused", suite.letter(8, 0), BAD);

        TokenSuite longest = new TokenSuite();
        add(longest, 2, "01234543");
        for (int i = 0; i < 7; i++) {
            due("11 learned", longest.learn(), 6 + i);
        }
        due("11 a whole word", longest.length(12), 8);
        due("12 a whole word", spelled(longest, 12), "01234543");
        due("12 behind a whole word", longest.letter(12, 8), NONE);
    }

    private static void promise13Price() {
        TokenSuite suite = nested();
        due("13 letter at first", suite.price(0, 99), 20);
        due("13 learned at first", suite.price(7, 1), 25);
        due("13 letter before", suite.price(0, 1), 99);
        due("13 learned before", suite.price(7, 99), 1);
        due("13 price 0", suite.price(7, 0), BAD);
        due("13 price 100", suite.price(7, 100), BAD);
        due("13 price -1", suite.price(7, -1), BAD);
        due("13 price MIN", suite.price(7, Integer.MIN_VALUE), BAD);
        due("13 price MAX", suite.price(7, Integer.MAX_VALUE), BAD);
        due("13 refused changes nothing", suite.price(7, 5), 99);
        for (int x : FAR) {
            due("13 bad token", suite.price(x, 5), BAD);
        }
        due("13 first unused", suite.price(8, 5), BAD);
        suite.unlearn();
        due("13 forgotten", suite.price(7, 5), BAD);
        suite.learn();
        due("13 learned anew", suite.price(7, 5), 25);
        due("13 other one keeps its own", suite.price(6, 5), 25);
        due("13 letter keeps it", suite.price(0, 5), 1);
    }

    private static void promise14Type() {
        TokenSuite suite = new TokenSuite();
        due("14 letter 6", suite.type(6), BAD);
        due("14 letter -1", suite.type(-1), BAD);
        due("14 letter MIN", suite.type(Integer.MIN_VALUE), BAD);
        due("14 letter MAX", suite.type(Integer.MAX_VALUE), BAD);
        for (int i = 0; i < 12; i++) {
            due("14 letter " + i, suite.type(i % 6), i + 1);
        }
        due("14 thirteenth", suite.type(0), FULL);
        due("14 thirteenth and bad", suite.type(6), BAD);
        suite.split(0);
        due("14 text", result(suite), "0 1 2 3 4 5 0 1 2 3 4 5");
        TokenSuite learned = nested();
        due("14 a token is no letter", learned.type(6), BAD);
        due("3 a token is no letter", learned.spell(6), BAD);
    }

    private static void promise15Wipe() {
        TokenSuite suite = new TokenSuite();
        due("15 empty", suite.wipe(), 0);
        retype(suite, "012");
        suite.split(0);
        due("15 three", suite.wipe(), 3);
        due("15 empty again", suite.wipe(), 0);
        due("15 result stays", result(suite), "0 1 2");
        due("15 text is new", suite.type(5), 1);
        suite.split(0);
        due("15 new result", result(suite), "5");
    }

    private static void promise16Split() {
        TokenSuite suite = competing();
        due("16 merging", splitOf(suite, "012", 0), "0 6");
        due("16 longest first", splitOf(suite, "012", 1), "7 2");
        due("16 cheapest, by tokens", splitOf(suite, "012", 2), "0 6");
        suite.price(0, 60);
        due("16 cheapest, by price", splitOf(suite, "012", 2), "7 2");
        due("16 merging looks at no price", splitOf(suite, "012", 0), "0 6");
        suite.price(0, 20);
        suite.price(6, 99);
        suite.price(7, 99);
        due("16 cheapest, letters", splitOf(suite, "012", 2), "0 1 2");
        due("16 longest first looks at no price", splitOf(suite, "012", 1), "7 2");
        suite.price(6, 40);
        due("16 cheapest, by number", splitOf(suite, "012", 2), "0 6");
        due("16 merging, one token after the other", splitOf(suite, "0112", 0), "7 6");
        due("16 answer", suite.split(0), 2);
        due("16 way 3", suite.split(3), BAD);
        due("16 way -1", suite.split(-1), BAD);
        due("16 way MIN", suite.split(Integer.MIN_VALUE), BAD);
        due("16 way MAX", suite.split(Integer.MAX_VALUE), BAD);
        due("16 refused changes nothing", result(suite), "7 6");
        suite.wipe();
        for (int way = 0; way < 3; way++) {
            due("16 empty text", suite.split(way), 0);
        }

        suite = doubled();
        due("16 from the left", splitOf(suite, "000", 0), "6 0");
        due("16 behind it", splitOf(suite, "0000", 0), "6 6");
        due("16 apart", splitOf(suite, "0010", 0), "6 1 0");
        due("16 longest first", splitOf(suite, "000", 1), "6 0");
        due("16 cheapest", splitOf(suite, "000", 2), "0 6");

        suite = nested();
        due("16 whole token", splitOf(suite, "0120101", 0), "7 6 6");
        due("16 the longest of several", splitOf(suite, "0120101", 1), "7 6 6");
        due("16 no token beyond the end", splitOf(suite, "201", 1), "2 6");
        due("16 full text", splitOf(suite, "012012012012", 2), "7 7 7 7");
        suite.unlearn();
        suite.unlearn();
        for (int way = 0; way < 3; way++) {
            due("16 forgotten tokens", splitOf(suite, "012", way), "0 1 2");
        }
    }

    private static void promises17And18SizeAndAt() {
        TokenSuite suite = nested();
        retype(suite, "01201");
        due("17 nothing yet", suite.size(), 0);
        due("18 nothing yet", suite.at(0), NONE);
        suite.split(0);
        due("17 two", suite.size(), 2);
        due("18 first", suite.at(0), 7);
        due("18 second", suite.at(1), 6);
        due("18 third", suite.at(2), NONE);
        due("18 ahead", suite.at(-1), NONE);
        due("18 MIN", suite.at(Integer.MIN_VALUE), NONE);
        due("18 MAX", suite.at(Integer.MAX_VALUE), NONE);
        suite.type(2);
        due("17 typing changes no result", suite.size(), 2);
        suite.wipe();
        suite.split(1);
        due("17 shorter result", suite.size(), 0);
        due("18 shorter result", suite.at(0), NONE);
        retype(suite, "333333333333");
        suite.split(2);
        due("17 longest result", suite.size(), 12);
        due("18 last of it", suite.at(11), 3);
        due("18 behind it", suite.at(12), NONE);
    }

    private static void promise19Cost() {
        TokenSuite suite = nested();
        retype(suite, "01201");
        due("19 empty result", suite.cost(), 0);
        suite.split(0);
        due("19 two learned", suite.cost(), 50);
        suite.price(6, 7);
        due("19 as they are now", suite.cost(), 32);
        suite.unlearn();
        due("19 those that there still are", suite.cost(), 7);
        suite.unlearn();
        due("19 none of them", suite.cost(), 0);
        due("19 result stays", result(suite), "7 6");
    }

    private static void promise20Ways() {
        TokenSuite suite = doubled();
        due("20 empty text", suite.ways(), 1);
        int[] fibonacci = {1, 2, 3, 5, 8, 13, 21, 34, 55, 89, 144, 233};
        for (int i = 0; i < 12; i++) {
            suite.type(0);
            due("20 of " + (i + 1) + " letters", suite.ways(), fibonacci[i]);
        }
        suite.unlearn();
        due("20 letters alone", suite.ways(), 1);
        TokenSuite other = competing();
        retype(other, "012");
        due("20 competing tokens", other.ways(), 3);
        retype(other, "210");
        due("20 none fits", other.ways(), 1);
    }

    private static void promises21And22Ranked() {
        TokenSuite suite = doubled();
        due("21 empty text", suite.ranked(0), 0);
        due("21 empty text", suite.ranked(1), NONE);
        due("22 empty text", suite.rankedAt(0, 0), NONE);
        retype(suite, "00000");
        int[] sums = {70, 70, 70, 85, 85, 85};
        String[] splits = {"0 6 6", "6 0 6", "6 6 0", "0 0 0 6", "0 0 6 0", "0 6 0 0"};
        for (int k = 0; k < 6; k++) {
            due("21 rank " + k, suite.ranked(k), sums[k]);
            due("22 rank " + k, rankedSplit(suite, k), splits[k]);
        }
        retype(suite, "000");
        due("21 third", suite.ranked(2), 60);
        due("21 no fourth", suite.ranked(3), NONE);
        due("22 no fourth", suite.rankedAt(3, 0), NONE);
        due("22 behind", suite.rankedAt(0, 2), NONE);
        due("22 ahead", suite.rankedAt(0, -1), NONE);
        due("22 MIN", suite.rankedAt(0, Integer.MIN_VALUE), NONE);
        due("22 MAX", suite.rankedAt(0, Integer.MAX_VALUE), NONE);
        suite.price(6, 40);
        String[] sameSum = {"0 6", "6 0", "0 0 0"};
        String[] lettersFirst = {"0 0 0", "0 6", "6 0"};
        for (int k = 0; k < 3; k++) {
            due("21 same sum", suite.ranked(k), 60);
            due("22 fewer first", rankedSplit(suite, k), sameSum[k]);
        }
        suite.price(6, 41);
        for (int k = 0; k < 3; k++) {
            due("21 lesser sum first", suite.ranked(k), k == 0 ? 60 : 61);
            due("22 lesser sum first", rankedSplit(suite, k), lettersFirst[k]);
        }
        for (int k : new int[] {-1, 6, 7, Integer.MIN_VALUE, Integer.MAX_VALUE}) {
            due("21 bad", suite.ranked(k), BAD);
            due("22 bad", suite.rankedAt(k, 0), BAD);
            due("22 both bad", suite.rankedAt(k, -1), BAD);
        }
        due("22 changes no result", suite.size(), 0);
    }

    private static void promise23Load() {
        TokenSuite suite = competing();
        add(suite, 3, "01212");
        add(suite, 50, "");
        due("23 merging", suite.load(0), 5 + 4 + 3 * 3);
        due("23 longest first", suite.load(1), 5 + 4 + 3 * 3);
        suite.price(6, 99);
        due("23 cheapest", suite.load(2), 5 * 2 + 4 + 3 * 4);
        add(suite, 2, "011");
        due("23 merging, one more", suite.load(0), 18 + 2 * 2);
        suite.price(7, 99);
        due("23 cheapest, letters", suite.load(2), 5 * 2 + 4 * 2 + 3 * 5 + 2 * 3);
        for (int way : new int[] {-1, 3, Integer.MIN_VALUE, Integer.MAX_VALUE}) {
            due("23 bad", suite.load(way), BAD);
        }
        due("23 changes no result", suite.size(), 0);

        // 6 = 1 2, 7 = 0 1, 8 = 2 3: merging and longest-first differ on 0 1 2 3.
        TokenSuite three = new TokenSuite();
        add(three, 9, "12");
        add(three, 8, "01");
        add(three, 7, "23");
        three.learn();
        three.learn();
        three.learn();
        add(three, 2, "0123");
        due("23 merging of four", three.load(0), 24 + 2 * 3);
        due("23 longest first of four", three.load(1), 24 + 2 * 2);
        due("23 cheapest of four", three.load(2), 24 + 2 * 2);
    }

    private static void promise24Expense() {
        TokenSuite suite = nested();
        due("24 one token", suite.expense(), 2 * 25);
        suite.price(7, 99);
        due("24 another split", suite.expense(), 2 * 45);
        suite.price(6, 99);
        due("24 letters", suite.expense(), 2 * 60);
        add(suite, 50, "55555555");
        suite.price(5, 99);
        due("24 more words", suite.expense(), 120 + 50 * 8 * 99);
        add(suite, 50, "");
        due("24 an empty word", suite.expense(), 120 + 50 * 8 * 99);
        retype(suite, "333");
        due("24 text is no matter", suite.expense(), 120 + 50 * 8 * 99);
        suite.dropWord();
        suite.dropWord();
        due("24 dropped words", suite.expense(), 120);
    }

    private static void promise25Worth() {
        TokenSuite suite = nested();
        due("25 of the outer one", suite.worth(7), 2 * (45 - 25));
        due("25 of the inner one, which the outer one does not need", suite.worth(6), 0);
        suite.price(7, 99);
        due("25 of the inner one", suite.worth(6), 2 * (60 - 45));
        due("25 of the outer one, too dear", suite.worth(7), 0);
        suite.price(6, 99);
        due("25 of the inner one, too dear", suite.worth(6), 0);
        due("25 uses it still afterwards", suite.ways(), 1);
        retype(suite, "012");
        due("25 nothing is forgotten", suite.ways(), 3);
        for (int x = 0; x < 6; x++) {
            due("25 of a letter", suite.worth(x), NONE);
        }
        for (int x : FAR) {
            due("25 bad", suite.worth(x), BAD);
        }
        due("25 first unused", suite.worth(8), BAD);
        suite.unlearn();
        due("25 forgotten", suite.worth(7), BAD);

        TokenSuite whole = new TokenSuite();
        add(whole, 2, "012345");
        for (int i = 0; i < 5; i++) {
            whole.learn();
        }
        // 6 = 0 1, 7 = 2 3, 8 = 4 5, 9 = 6 7, 10 = 9 8: without 10 the word is 9 and 8.
        due("25 of the whole word", whole.worth(10), 2 * (50 - 25));
    }

    private static void promise26OrderAndLimits() {
        TokenSuite suite = doubled();
        retype(suite, "0000");
        suite.split(0);
        suite.price(6, 30);
        due("26 two", suite.cost(), 60);
        suite.unlearn();
        due("26 forgotten", suite.cost(), 0);
        suite.dropWord();
        add(suite, 3, "45");
        suite.learn();
        due("26 another one has its number", suite.cost(), 50);
        due("26 which it is", spelled(suite, 6), "45");
        suite.price(6, 1);
        due("26 with the price of now", suite.cost(), 2);
        due("26 result stays", result(suite), "6 6");
    }

    public static void main(String[] args) {
        promise1NewObject();
        promise2Word();
        promise3Spell();
        promise4DropWord();
        promise5Learn();
        promise6Unlearn();
        promise7Frequency();
        promise8Tokens();
        promises9And10LeftAndRight();
        promises11And12LengthAndLetter();
        promise13Price();
        promise14Type();
        promise15Wipe();
        promise16Split();
        promises17And18SizeAndAt();
        promise19Cost();
        promise20Ways();
        promises21And22Ranked();
        promise23Load();
        promise24Expense();
        promise25Worth();
        promise26OrderAndLimits();
        end();
    }
}

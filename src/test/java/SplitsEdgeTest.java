// The boundary cases of promises 14 to 18 and 20 to 22: the text, and splits of it. Each sentence of
// the document that names one has a test, on both sides of the boundary.
public final class SplitsEdgeTest extends Checks {
    private static void typeBadLetter() {
        TokenSuite suite = nested();
        for (int letter : outside(0, 5)) {
            due("type(" + letter + ")", suite.type(letter), BAD);
        }
        due("a learned token is no letter", suite.type(6), BAD);
        due("least", suite.type(0), 1);
        due("greatest", suite.type(5), 2);
        suite.split(0);
        due("the text", result(suite), "0 5");
    }

    private static void twelveLetters() {
        TokenSuite suite = new TokenSuite();
        retype(suite, "00000000000");
        due("twelfth", suite.type(5), 12);
        due("thirteenth", suite.type(5), FULL);
        due("again", suite.type(0), FULL);
        due("split", suite.split(0), 12);
        due("the last letter", suite.at(11), 5);
        due("none behind", suite.at(12), NONE);
        due("wiped", suite.wipe(), 12);
        due("room again", suite.type(0), 1);
    }

    private static void typeTestsLetterFirst() {
        TokenSuite suite = new TokenSuite();
        retype(suite, "000000000000");
        due("bad and full, below", suite.type(-1), BAD);
        due("bad and full, above", suite.type(6), BAD);
        due("full alone", suite.type(5), FULL);
    }

    private static void typeAnswersHowMany() {
        TokenSuite suite = new TokenSuite();
        for (int i = 1; i <= MOST_TEXT; i++) {
            due("letter " + i, suite.type(i % 6), i);
        }
    }

    private static void wipedTextIsEmpty() {
        TokenSuite suite = doubled();
        retype(suite, "000000000000");
        suite.wipe();
        due("ways", suite.ways(), 1);
        due("ranked", suite.ranked(0), 0);
        due("split", suite.split(1), 0);
        suite.type(0);
        due("split of the new text", suite.split(0), 1);
        due("words stay", suite.load(0), 2);
        due("tokens stay", suite.tokens(), 7);
    }

    private static void wipeAnswersHowManyItHad() {
        TokenSuite suite = new TokenSuite();
        due("new", suite.wipe(), 0);
        suite.type(0);
        due("one", suite.wipe(), 1);
        due("empty again", suite.wipe(), 0);
        retype(suite, "012345012345");
        suite.type(0);
        due("twelve", suite.wipe(), 12);
    }

    private static void wipeLeavesTheResult() {
        TokenSuite suite = nested();
        retype(suite, "0125");
        suite.split(0);
        suite.wipe();
        due("result", result(suite), "7 5");
    }

    private static void wayOutsideItsBounds() {
        TokenSuite suite = competing();
        retype(suite, "012");
        for (int way : outside(0, 2)) {
            due("split(" + way + ")", suite.split(way), BAD);
        }
        due("no result yet", suite.size(), 0);
        suite.split(1);
        suite.split(3);
        suite.split(-1);
        due("result is as it was", result(suite), "7 2");
        due("least way", suite.split(0), 2);
        due("merged", result(suite), "0 6");
        suite.price(6, 99);
        suite.price(7, 99);
        due("greatest way", suite.split(2), 3);
        due("cheapest", result(suite), "0 1 2");
    }

    private static void splitOfEmptyText() {
        for (int way = 0; way < 3; way++) {
            TokenSuite suite = doubled();
            due("way " + way, suite.split(way), 0);
            retype(suite, "000");
            due("way " + way + " of three letters", suite.split(way), 2);
            suite.wipe();
            due("way " + way + " of the wiped text", suite.split(way), 0);
            due("size", suite.size(), 0);
            due("at", suite.at(0), NONE);
        }
    }

    private static void splitOfOneLetter() {
        for (int way = 0; way < 3; way++) {
            for (int letter = 0; letter < 6; letter++) {
                due("way " + way, splitOf(allLearned(), "" + letter, way), "" + letter);
            }
        }
    }

    private static void splitAnswersHowManyTokens() {
        for (int way = 0; way < 3; way++) {
            TokenSuite suite = eightLong();
            suite.wipe();
            int[] sizes = {1, 1, 2, 1, 2, 2, 3, 1, 2, 2, 3, 2};
            for (int i = 0; i < sizes.length; i++) {
                suite.type(0);
                due("way " + way + " of " + (i + 1), suite.split(way), sizes[i]);
                due("size", suite.size(), sizes[i]);
            }
        }
        TokenSuite letters = new TokenSuite();
        retype(letters, "555555555555");
        for (int way = 0; way < 3; way++) {
            due("way " + way + " of twelve letters", letters.split(way), 12);
        }
    }

    private static void mergesInOrderOfNumbers() {
        due("6 = 1 2 ahead of 7 = 0 1", splitOf(competing(), "012", 0), "0 6");
        due("7 where 6 is not", splitOf(competing(), "0112", 0), "7 6");
        due("a token of a token", splitOf(nested(), "012", 0), "7");
        due("without its right one", splitOf(nested(), "011", 0), "6 1");

        // 6 = 1 0, 7 = 0 1: the 6 in the middle leaves nothing for 7.
        TokenSuite suite = new TokenSuite();
        add(suite, 3, "10");
        add(suite, 2, "01");
        learn(suite, 2);
        due("only what is left", splitOf(suite, "0101", 0), "0 6 1");
    }

    private static void mergesFromTheLeftAndGoesOnBehind() {
        TokenSuite suite = doubled();
        String[] rows = {"0", "6", "6 0", "6 6", "6 6 0", "6 6 6"};
        for (int letters = 1; letters <= rows.length; letters++) {
            due("of " + letters, splitOf(suite, "000000".substring(0, letters), 0), rows[letters - 1]);
        }
        due("the whole of the longest text", splitOf(suite, "000000000000", 0), "6 6 6 6 6 6");
        due("at the end of the longest text", splitOf(suite, "111111111100", 0), "1 1 1 1 1 1 1 1 1 1 6");
        due("half at the end", splitOf(suite, "001111111110", 0), "6 1 1 1 1 1 1 1 1 1 0");
        due("not over a gap", splitOf(suite, "010", 0), "0 1 0");
    }

    private static void longestTakesMostLetters() {
        due("three of 1, 2, 3", splitOf(nested(), "012", 1), "7");
        due("two of 1, 2", splitOf(nested(), "013", 1), "6 3");
        due("one of 1", splitOf(nested(), "02", 1), "0 2");
        TokenSuite suite = nested();
        suite.price(7, 99);
        due("prices are no matter", splitOf(suite, "012", 1), "7");
        due("numbers are no matter", splitOf(everyLength(), "0000000", 1), "12");
    }

    private static void longestFits() {
        TokenSuite suite = everyLength();
        due("just the whole text", splitOf(suite, "00000000", 1), "8");
        due("one letter more", splitOf(suite, "000000000", 1), "8 0");
        due("the end of the longest text", splitOf(suite, "111100000000", 1), "1 1 1 1 8");
        due("one letter less than needed", splitOf(suite, "111110000000", 1), "1 1 1 1 1 12");
        due("another last letter", splitOf(suite, "00000001", 1), "12 1");
        due("another first letter", splitOf(suite, "10000000", 1), "1 12");

        TokenSuite eight = eightLong();
        due("eight", splitOf(eight, "00000000", 1), "8");
        due("seven", splitOf(eight, "0000000", 1), "7 6 0");
        due("letters of an earlier text don't count", splitOf(eight, "000", 1), "6 0");
    }

    private static void longestGoesOnBehind() {
        due("7 = 0 1 takes the 1", splitOf(competing(), "012", 1), "7 2");
        due("behind it 6 fits", splitOf(competing(), "0112", 1), "7 6");
        due("the longest text", splitOf(competing(), "012012012012", 1), "7 2 7 2 7 2 7 2");
    }

    private static void lesserSumFirst() {
        TokenSuite suite = competing();
        retype(suite, "012");
        suite.price(6, 38);
        suite.price(7, 39);
        due("38 + 20", rankedSplit(suite, 0), "0 6");
        due("39 + 20", rankedSplit(suite, 1), "7 2");
        due("3 * 20", rankedSplit(suite, 2), "0 1 2");
        suite.price(7, 37);
        due("one less than 6", rankedSplit(suite, 0), "7 2");
        suite.price(6, 41);
        suite.price(7, 41);
        due("letters are one less", rankedSplit(suite, 0), "0 1 2");
        due("one more", suite.ranked(1), 61);
    }

    private static void fewerTokensFirst() {
        TokenSuite suite = doubled();
        suite.price(6, 40);
        retype(suite, "00");
        due("one token of 40", rankedSplit(suite, 0), "6");
        due("two of 20", rankedSplit(suite, 1), "0 0");
        suite.price(6, 41);
        due("sum goes ahead of number", rankedSplit(suite, 0), "0 0");
        suite.price(6, 40);
        retype(suite, "0000");
        String[] order = {"6 6", "0 0 6", "0 6 0", "6 0 0", "0 0 0 0"};
        for (int k = 0; k < order.length; k++) {
            due("all of sum 80, " + k, rankedSplit(suite, k), order[k]);
        }
    }

    private static void lesserTokensFirst() {
        TokenSuite suite = competing();
        retype(suite, "012");
        due("lesser at the first place", rankedSplit(suite, 0), "0 6");
        due("greater at the first place", rankedSplit(suite, 1), "7 2");

        TokenSuite later = doubled();
        retype(later, "1000");
        due("lesser at the second place", rankedSplit(later, 0), "1 0 6");
        due("greater at the second place", rankedSplit(later, 1), "1 6 0");
        retype(later, "111111111000");
        due("lesser at the tenth place", rankedSplit(later, 0), "1 1 1 1 1 1 1 1 1 0 6");
        due("greater at the tenth place", rankedSplit(later, 1), "1 1 1 1 1 1 1 1 1 6 0");
        retype(later, "000000000");
        due("first of five", rankedSplit(later, 0), "0 6 6 6 6");
        due("last of five", rankedSplit(later, 4), "6 6 6 6 0");
    }

    private static void cheapestIsTheFirst() {
        TokenSuite suite = doubled();
        for (int price : new int[] {1, 39, 40, 41, 99}) {
            suite.price(6, price);
            for (String letters : new String[] {"", "0", "00", "000", "00000"}) {
                due(price + " for " + letters, splitOf(suite, letters, 2), rankedSplit(suite, 0));
            }
        }
        due("at 99", splitOf(suite, "000", 2), "0 0 0");
        suite.price(6, 40);
        due("at 40", splitOf(suite, "000", 2), "0 6");
    }

    private static void sizeOfResult() {
        TokenSuite suite = new TokenSuite();
        due("new", suite.size(), 0);
        suite.type(0);
        due("typed, not split", suite.size(), 0);
        suite.split(0);
        due("one", suite.size(), 1);
        retype(suite, "012345012345");
        due("typed, not split again", suite.size(), 1);
        suite.split(0);
        due("twelve", suite.size(), 12);
        suite.wipe();
        due("wiped, not split again", suite.size(), 12);
        suite.split(0);
        due("empty", suite.size(), 0);
    }

    private static void atOutsideTheResult() {
        TokenSuite suite = new TokenSuite();
        due("empty result", suite.at(0), NONE);
        retype(suite, "501234501234");
        suite.split(0);
        for (int i : outside(0, 11)) {
            due("at(" + i + ")", suite.at(i), NONE);
        }
        due("first", suite.at(0), 5);
        due("last", suite.at(11), 4);
        retype(suite, "123");
        suite.split(0);
        due("last of a shorter result", suite.at(2), 3);
        for (int i : outside(0, 2)) {
            due("at(" + i + ") of a shorter result", suite.at(i), NONE);
        }
        due("what was there before", suite.at(3), NONE);
    }

    /** The result 7 6 5 of the text 0 1 2 0 1 5, with one word of letters 0 1 2. */
    private static TokenSuite withResult() {
        TokenSuite suite = nested();
        retype(suite, "012015");
        suite.split(0);
        return suite;
    }

    private static void splitAloneChangesTheResult() {
        TokenSuite suite = withResult();
        suite.type(3);
        due("after type", result(suite), "7 6 5");
        suite.wipe();
        due("after wipe", result(suite), "7 6 5");
        suite.price(7, 99);
        due("after price", result(suite), "7 6 5");
        suite.dropWord();
        due("after dropWord", result(suite), "7 6 5");
        add(suite, 2, "44");
        due("after word and spell", result(suite), "7 6 5");
        due("another token", suite.learn(), 8);
        due("after learn", result(suite), "7 6 5");
        suite.unlearn();
        due("after unlearn", result(suite), "7 6 5");
        suite.type(4);
        suite.type(4);
        suite.split(0);
        due("after split", result(suite), "4 4");
        suite.learn();
        due("a result is not made anew for a new token", result(suite), "4 4");
        suite.split(0);
        due("but by the next split", result(suite), "8");
    }

    private static void sizeCountsForgottenTokens() {
        TokenSuite suite = withResult();
        for (int left = 7; left >= 6; left--) {
            due("unlearn", suite.unlearn(), left);
            due("size", suite.size(), 3);
        }
        due("cost leaves them out", suite.cost(), 20);
        suite.split(0);
        due("size of a new result", suite.size(), 6);
    }

    private static void atTellsForgottenTokens() {
        TokenSuite suite = withResult();
        suite.unlearn();
        suite.unlearn();
        due("there is no token 7", suite.length(7), BAD);
        due("the first is 7 still", suite.at(0), 7);
        due("there is no token 6", suite.length(6), BAD);
        due("the second is 6 still", suite.at(1), 6);
        due("a letter", suite.at(2), 5);
        due("behind it", suite.at(3), NONE);
        suite.dropWord();
        add(suite, 2, "44");
        due("another token", suite.learn(), 6);
        due("the second has its number", suite.at(1), 6);
        due("the first is 7 still, with another 6", suite.at(0), 7);
    }

    private static void waysOfEmptyText() {
        TokenSuite suite = new TokenSuite();
        due("new", suite.ways(), 1);
        suite.type(0);
        due("one letter", suite.ways(), 1);
        due("empty, with tokens", everyLength().ways(), 1);
        TokenSuite wiped = doubled();
        retype(wiped, "00");
        due("two letters", wiped.ways(), 2);
        wiped.wipe();
        due("wiped", wiped.ways(), 1);
    }

    private static void waysUpToTheLongestText() {
        TokenSuite suite = everyLength();
        int[] splits = new int[MOST_TEXT + 1];
        splits[0] = 1;
        for (int letters = 1; letters <= MOST_TEXT; letters++) {
            for (int first = 1; first <= MOST_WORD_LETTERS && first <= letters; first++) {
                splits[letters] += splits[letters - first];
            }
            suite.type(0);
            due("ways of " + letters, suite.ways(), splits[letters]);
        }
        due("ways of twelve, counted by hand", splits[MOST_TEXT], 2028);
        suite.type(0);
        due("a refused letter adds none", suite.ways(), 2028);
    }

    private static void rankBad() {
        TokenSuite suite = doubled();
        for (String letters : new String[] {"", "00", "000000000000"}) {
            retype(suite, letters);
            for (int k : outside(0, 5)) {
                due("ranked(" + k + ") of " + letters, suite.ranked(k), BAD);
            }
        }
        due("least", suite.ranked(0), 150);
        due("greatest", suite.ranked(5), 165);
    }

    private static void rankThatIsNotThere() {
        TokenSuite suite = doubled();
        String[] texts = {"", "0", "00", "000", "0000", "001000", "00000"};
        int[] ways = {1, 1, 2, 3, 5, 6, 8};
        for (int i = 0; i < texts.length; i++) {
            retype(suite, texts[i]);
            due("ways of " + texts[i], suite.ways(), ways[i]);
            for (int k = 0; k < 6; k++) {
                int answer = suite.ranked(k);
                due("rank " + k + " of " + texts[i], answer >= 0 ? 0 : answer, k < ways[i] ? 0 : NONE);
            }
        }
        retype(suite, "000");
        due("last one that there is", suite.ranked(2), 60);
        due("first one that there is not", suite.ranked(3), NONE);
    }

    private static void rankedSums() {
        TokenSuite suite = doubled();
        due("empty text", suite.ranked(0), 0);
        retype(suite, "000000000000");
        for (int x = 0; x < 7; x++) {
            suite.price(x, 99);
        }
        due("six of the greatest price", suite.ranked(0), 6 * 99);
        suite.price(0, 1);
        due("twelve of the least price", suite.ranked(0), 12);
        due("ten of the least, one of the greatest", suite.ranked(1), 109);
        suite.unlearn();
        suite.price(0, 99);
        due("twelve of the greatest price", suite.ranked(0), 12 * 99);
    }

    private static void rankedAtBadRank() {
        TokenSuite suite = doubled();
        retype(suite, "00000");
        for (int k : outside(0, 5)) {
            due("rankedAt(" + k + ", 0)", suite.rankedAt(k, 0), BAD);
        }
        due("least", suite.rankedAt(0, 0), 0);
        due("greatest", suite.rankedAt(5, 1), 6);
    }

    private static void rankedAtNoSuchSplit() {
        TokenSuite suite = doubled();
        due("empty text, second split", suite.rankedAt(1, 0), NONE);
        retype(suite, "0000");
        due("fifth of five", suite.rankedAt(4, 0), 0);
        due("sixth of five", suite.rankedAt(5, 0), NONE);
        retype(suite, "001000");
        due("sixth of six", suite.rankedAt(5, 5), 0);
        retype(suite, "0");
        due("second of one", suite.rankedAt(1, 0), NONE);
        due("sixth of one", suite.rankedAt(5, 0), NONE);
    }

    private static void rankedAtNoSuchToken() {
        TokenSuite suite = doubled();
        due("empty text", suite.rankedAt(0, 0), NONE);
        retype(suite, "000");
        for (int i : outside(0, 1)) {
            due("rankedAt(0, " + i + ")", suite.rankedAt(0, i), NONE);
        }
        due("first of two", suite.rankedAt(0, 0), 0);
        due("second of two", suite.rankedAt(0, 1), 6);
        due("third of three", suite.rankedAt(2, 2), 0);
        due("fourth of three", suite.rankedAt(2, 3), NONE);
        TokenSuite letters = new TokenSuite();
        retype(letters, "012345012345");
        due("twelfth of twelve", letters.rankedAt(0, 11), 5);
        for (int i : outside(0, 11)) {
            due("rankedAt(0, " + i + ") of twelve", letters.rankedAt(0, i), NONE);
        }
    }

    private static void rankedAtTestsRankFirst() {
        TokenSuite suite = doubled();
        for (String letters : new String[] {"", "000"}) {
            retype(suite, letters);
            due("both bad, below", suite.rankedAt(-1, -1), BAD);
            due("both bad, above", suite.rankedAt(6, 12), BAD);
            due("no such split, no such token", suite.rankedAt(5, 12), NONE);
        }
    }

    private static void terms() {
        sentence("Terms", "for every learned token in the order of their numbers",
                SplitsEdgeTest::mergesInOrderOfNumbers);
        sentence("Terms", "from the left [..] and it is gone on behind it",
                SplitsEdgeTest::mergesFromTheLeftAndGoesOnBehind);
        sentence("Terms", "the token that spells most letters", SplitsEdgeTest::longestTakesMostLetters);
        sentence("Terms", "and fits there", SplitsEdgeTest::longestFits);
        sentence("Terms", "and goes on behind it in the same way", SplitsEdgeTest::longestGoesOnBehind);
        sentence("Terms", "by the sum of their prices, the lesser first", SplitsEdgeTest::lesserSumFirst);
        sentence("Terms", "by their number of tokens, fewer first", SplitsEdgeTest::fewerTokensFirst);
        sentence("Terms", "the lesser first at the first place at which they differ",
                SplitsEdgeTest::lesserTokensFirst);
        sentence("Terms", "The CHEAPEST split is the first one in this order",
                SplitsEdgeTest::cheapestIsTheFirst);
    }

    private static void textAndResult() {
        sentence("14", "letter is not good: BAD", SplitsEdgeTest::typeBadLetter);
        sentence("14", "it has 12 letters: FULL", SplitsEdgeTest::twelveLetters);
        sentence("14", "the tests are made in the order named", SplitsEdgeTest::typeTestsLetterFirst);
        sentence("14", "Else answers how many it has then", SplitsEdgeTest::typeAnswersHowMany);
        sentence("15", "The text becomes empty", SplitsEdgeTest::wipedTextIsEmpty);
        sentence("15", "answers how many letters it had", SplitsEdgeTest::wipeAnswersHowManyItHad);
        sentence("15", "The text becomes empty", SplitsEdgeTest::wipeLeavesTheResult);
        sentence("16", "way is not 0 .. 2: BAD", SplitsEdgeTest::wayOutsideItsBounds);
        sentence("16", "The result becomes what [..] makes of the text", SplitsEdgeTest::splitOfEmptyText);
        sentence("16", "The result becomes what [..] makes of the text", SplitsEdgeTest::splitOfOneLetter);
        sentence("16", "Else answers how many tokens the result has",
                SplitsEdgeTest::splitAnswersHowManyTokens);
        sentence("16", "The result becomes what [..] makes of the text",
                SplitsEdgeTest::splitAloneChangesTheResult);
        sentence("17", "The number of tokens of the result", SplitsEdgeTest::sizeOfResult);
        sentence("17", "The number of tokens of the result", SplitsEdgeTest::sizeCountsForgottenTokens);
        sentence("18", "NONE if there is none", SplitsEdgeTest::atOutsideTheResult);
        sentence("18", "Token i (0 the first) of the result", SplitsEdgeTest::atTellsForgottenTokens);
    }

    private static void waysAndRanks() {
        sentence("20", "1 if it is empty", SplitsEdgeTest::waysOfEmptyText);
        sentence("20", "How many splits the text has", SplitsEdgeTest::waysUpToTheLongestText);
        sentence("21", "k is not 0 .. 5: BAD", SplitsEdgeTest::rankBad);
        sentence("21", "there is none: NONE", SplitsEdgeTest::rankThatIsNotThere);
        sentence("21", "The sum of the prices", SplitsEdgeTest::rankedSums);
        sentence("22", "k is not 0 .. 5: BAD", SplitsEdgeTest::rankedAtBadRank);
        sentence("22", "there is no such split [..] NONE", SplitsEdgeTest::rankedAtNoSuchSplit);
        sentence("22", "or no such token: NONE", SplitsEdgeTest::rankedAtNoSuchToken);
        sentence("22", "the tests are made in the order named", SplitsEdgeTest::rankedAtTestsRankFirst);
    }

    public static void main(String[] args) {
        terms();
        textAndResult();
        waysAndRanks();
        end();
    }
}

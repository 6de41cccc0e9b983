// The boundary cases of promises 8 to 13: tokens, what they spell, and their prices. Each sentence
// of the document that names one has a test, on both sides of the boundary.
public final class TokensEdgeTest extends Checks {
    private interface Question {
        int ask(TokenSuite suite, int x);
    }

    /** Asks for tokens that are not there: with none, some and all learned, and for forgotten ones. */
    private static void dueBad(String name, Question question) {
        TokenSuite none = new TokenSuite();
        for (int x : outside(0, 5)) {
            due(name + "(" + x + ") with none learned", question.ask(none, x), BAD);
        }
        TokenSuite two = nested();
        for (int x : outside(0, 7)) {
            due(name + "(" + x + ") with two learned", question.ask(two, x), BAD);
        }
        two.unlearn();
        due(name + " of a forgotten token", question.ask(two, 7), BAD);
        TokenSuite all = allLearned();
        for (int x : outside(0, 19)) {
            due(name + "(" + x + ") with all learned", question.ask(all, x), BAD);
        }
    }

    private static void dueNoneForLetters(String name, Question question) {
        for (TokenSuite suite : new TokenSuite[] {new TokenSuite(), allLearned()}) {
            for (int x = 0; x < 6; x++) {
                due(name + " of letter " + x, question.ask(suite, x), NONE);
            }
        }
    }

    private static void howManyTokens() {
        TokenSuite suite = new TokenSuite();
        due("none learned", suite.tokens(), 6);
        add(suite, 1, "01");
        suite.learn();
        due("nothing could be learned", suite.tokens(), 6);
        due("all learned", allLearned().tokens(), 20);
        TokenSuite full = allLearned();
        full.learn();
        due("no more could be learned", full.tokens(), 20);
    }

    private static void madeOfEarlierTokens() {
        TokenSuite suite = allLearned();
        for (int x = 6; x < MOST_TOKENS; x++) {
            int left = suite.left(x);
            int right = suite.right(x);
            due("left of " + x + " is earlier", left >= 0 && left < x ? 1 : 0, 1);
            due("right of " + x + " is earlier", right >= 0 && right < x ? 1 : 0, 1);
            due("what " + x + " spells", spelled(suite, x), spelled(suite, left) + spelled(suite, right));
        }
    }

    private static void leftBad() {
        dueBad("left", TokenSuite::left);
    }

    private static void leftOfLetter() {
        dueNoneForLetters("left", TokenSuite::left);
        due("of the first learned one", nested().left(6), 0);
        due("of a learned one made of a learned one", nested().left(7), 6);
        due("of the last one", allLearned().left(19) >= 0 ? 1 : 0, 1);
    }

    private static void rightBad() {
        dueBad("right", TokenSuite::right);
    }

    private static void rightOfLetter() {
        dueNoneForLetters("right", TokenSuite::right);
        due("of the first learned one", nested().right(6), 1);
        due("of a learned one made of a learned one", nested().right(7), 2);
        due("of the last one", allLearned().right(19) >= 0 ? 1 : 0, 1);
    }

    private static void lengthBad() {
        dueBad("length", TokenSuite::length);
    }

    private static void lengths() {
        TokenSuite suite = everyLength();
        int[] tokens = {0, 6, 9, 7, 10, 11, 12, 8};
        for (int i = 0; i < tokens.length; i++) {
            due("length of " + tokens[i], suite.length(tokens[i]), i + 1);
        }
        due("of the last letter", suite.length(5), 1);
        due("behind the last token", suite.length(13), BAD);
    }

    private static void letterOfBadToken() {
        dueBad("letter 0 of", (suite, x) -> suite.letter(x, 0));
    }

    private static void letterThatIsNotThere() {
        TokenSuite suite = eightLong();
        int[] lengths = {1, 1, 1, 1, 1, 1, 2, 4, 8};
        for (int x = 0; x < lengths.length; x++) {
            int letter = x < 6 ? x : 0;
            due("first letter of " + x, suite.letter(x, 0), letter);
            due("last letter of " + x, suite.letter(x, lengths[x] - 1), letter);
            for (int i : outside(0, lengths[x] - 1)) {
                due("letter(" + x + ", " + i + ")", suite.letter(x, i), NONE);
            }
        }
    }

    private static void lettersInOrder() {
        TokenSuite suite = new TokenSuite();
        add(suite, 2, "54321012");
        learn(suite, 7);
        due("a whole word", spelled(suite, 12), "54321012");
        due("its last letter", suite.letter(12, 7), 2);
        due("behind it", suite.letter(12, 8), NONE);
        // A token's letters may stand next to those of another: what is behind must not show.
        due("behind a short one", suite.letter(6, 2), NONE);
    }

    private static void letterTestsTokenFirst() {
        dueBad("letter -1 of", (suite, x) -> suite.letter(x, -1));
        dueBad("letter 8 of", (suite, x) -> suite.letter(x, 8));
        due("letter -1 of a good one", nested().letter(7, -1), NONE);
    }

    private static void spellingOfARelearnedToken() {
        TokenSuite suite = eightLong();
        suite.unlearn();
        suite.dropWord();
        add(suite, 2, "45");
        suite.learn();
        due("shorter than the forgotten one", spelled(suite, 8), "45");
        due("behind it", suite.letter(8, 2), NONE);
    }

    private static void priceOfBadToken() {
        dueBad("price 50 of", (suite, x) -> suite.price(x, 50));
        TokenSuite suite = allLearned();
        due("first token", suite.price(0, 50), 20);
        due("last letter", suite.price(5, 50), 20);
        due("first learned", suite.price(6, 50), 25);
        due("last token", suite.price(19, 50), 25);
    }

    private static void priceOutsideItsBounds() {
        TokenSuite suite = nested();
        for (int x : new int[] {0, 5, 6, 7}) {
            for (int price : outside(1, 99)) {
                due("price(" + x + ", " + price + ")", suite.price(x, price), BAD);
            }
            due("price is as it was", suite.price(x, 1), x < 6 ? 20 : 25);
            due("least price, then the greatest", suite.price(x, 99), 1);
            due("greatest price", suite.price(x, 50), 99);
        }
    }

    private static void priceBothBad() {
        dueBad("price 0 of", (suite, x) -> suite.price(x, 0));
        dueBad("price 100 of", (suite, x) -> suite.price(x, 100));
    }

    private static void learnedKeepsPriceUntilForgotten() {
        TokenSuite suite = nested();
        suite.price(6, 7);
        suite.price(7, 8);
        suite.dropWord();
        add(suite, 3, "55");
        suite.learn();
        due("after another was learned", suite.price(7, 8), 8);
        suite.unlearn();
        due("after another was forgotten", suite.price(7, 8), 8);
        suite.unlearn();
        suite.dropWord();
        add(suite, 2, "012");
        due("learned anew", suite.learn(), 7);
        due("its price is as at first", suite.price(7, 25), 25);
        due("one that was not forgotten", suite.price(6, 7), 7);
    }

    private static void letterKeepsPrice() {
        TokenSuite suite = nested();
        suite.price(0, 3);
        suite.price(5, 4);
        suite.unlearn();
        suite.unlearn();
        suite.unlearn();
        suite.learn();
        due("first letter", suite.price(0, 3), 3);
        due("last letter", suite.price(5, 4), 4);
    }

    private static void priceAnswersTheOneBefore() {
        TokenSuite suite = nested();
        for (int price = 1; price <= 99; price++) {
            due("letter", suite.price(5, price), price == 1 ? 20 : price - 1);
            due("learned", suite.price(6, 100 - price), price == 1 ? 25 : 101 - price);
        }
        due("another letter", suite.price(4, 20), 20);
        due("another learned one", suite.price(7, 25), 25);
    }

    private static void tokens() {
        sentence("8", "How many tokens there are", TokensEdgeTest::howManyTokens);
        sentence("Terms", "made of two earlier tokens", TokensEdgeTest::madeOfEarlierTokens);
        sentence("9", "x is not good: BAD", TokensEdgeTest::leftBad);
        sentence("9", "it is a letter: NONE", TokensEdgeTest::leftOfLetter);
        sentence("10", "x is not good: BAD", TokensEdgeTest::rightBad);
        sentence("10", "it is a letter: NONE", TokensEdgeTest::rightOfLetter);
    }

    private static void spellings() {
        sentence("11", "x is not good: BAD", TokensEdgeTest::lengthBad);
        sentence("11", "How many letters a token spells", TokensEdgeTest::lengths);
        sentence("12", "x is not good: BAD", TokensEdgeTest::letterOfBadToken);
        sentence("12", "there is none: NONE", TokensEdgeTest::letterThatIsNotThere);
        sentence("12", "Letter i (0 the first)", TokensEdgeTest::lettersInOrder);
        sentence("12", "the tests are made in the order named", TokensEdgeTest::letterTestsTokenFirst);
        sentence("12", "of what a token spells", TokensEdgeTest::spellingOfARelearnedToken);
    }

    private static void prices() {
        sentence("13", "x is not good [..] BAD", TokensEdgeTest::priceOfBadToken);
        sentence("13", "or price not 1 .. 99: BAD", TokensEdgeTest::priceOutsideItsBounds);
        sentence("13", "x is not good, or price not 1 .. 99", TokensEdgeTest::priceBothBad);
        sentence("13", "a learned one keeps it until it is forgotten",
                TokensEdgeTest::learnedKeepsPriceUntilForgotten);
        sentence("13", "Sets a token's price", TokensEdgeTest::letterKeepsPrice);
        sentence("13", "Else answers the price before", TokensEdgeTest::priceAnswersTheOneBefore);
    }

    public static void main(String[] args) {
        tokens();
        spellings();
        prices();
        end();
    }
}

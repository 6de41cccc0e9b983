import java.util.LinkedHashMap;
import java.util.Map;
import java.util.function.Function;
import java.util.function.Supplier;
import java.util.function.ToIntFunction;

// "A refused call (an answer below 0) changes nothing. Questions change nothing." Of two objects that
// were made alike one gets such a call; then both must show the same. An object is looked at from
// several sides, a new pair for each, as the looking itself may change it and takes many calls.
// A call that is not refused must leave the sides the same that its promise does not speak of.
public final class NothingChangesTest extends Checks {
    private static final int MOST_CALLS = 512;

    private static final Map<String, Supplier<TokenSuite>> STATES = new LinkedHashMap<>();
    private static final Map<String, Function<TokenSuite, String>> SIDES = new LinkedHashMap<>();

    /** Words, tokens with prices of their own, a text, and a result that is not of this text. */
    private static TokenSuite ordinary() {
        TokenSuite suite = nested();
        add(suite, 3, "3012");
        add(suite, 1, "2");
        suite.price(6, 7);
        suite.price(7, 31);
        suite.price(2, 5);
        retype(suite, "30125");
        suite.split(1);
        retype(suite, "0120");
        return suite;
    }

    /** Everything is at its greatest size, and there would be a pair to learn. */
    private static TokenSuite full() {
        TokenSuite suite = allLearned();
        suite.dropWord();
        add(suite, 3, "55012001");
        retype(suite, "012012034051");
        suite.split(2);
        suite.price(19, 99);
        return suite;
    }

    /** All tokens are learned, and there is no pair to learn. */
    private static TokenSuite fullWithoutPairs() {
        TokenSuite suite = oneShort();
        suite.learn();
        retype(suite, "543210");
        suite.split(0);
        return suite;
    }

    /** The result names tokens that were forgotten since. */
    private static TokenSuite forgetful() {
        TokenSuite suite = ordinary();
        suite.unlearn();
        suite.unlearn();
        return suite;
    }

    private static TokenSuite wordless() {
        TokenSuite suite = ordinary();
        // No more than there are: a refused call here would hide what such calls do.
        dropWords(suite, 3);
        return suite;
    }

    private static String tokensSide(TokenSuite suite) {
        StringBuilder seen = new StringBuilder();
        for (int x = 0; x < MOST_TOKENS; x++) {
            seen.append(suite.left(x)).append(' ').append(suite.right(x)).append(' ');
            seen.append(suite.length(x)).append(' ');
            for (int i = 0; i < MOST_WORD_LETTERS; i++) {
                seen.append(suite.letter(x, i)).append(' ');
            }
            seen.append(suite.price(x, 50)).append(' ');
        }
        return seen.append(suite.tokens()).toString();
    }

    private static String resultSide(TokenSuite suite) {
        StringBuilder seen = new StringBuilder();
        seen.append(suite.cost()).append(' ').append(suite.size()).append(' ');
        for (int i = 0; i < MOST_TEXT; i++) {
            seen.append(suite.at(i)).append(' ');
        }
        return seen.toString();
    }

    private static String textSide(TokenSuite suite) {
        StringBuilder seen = new StringBuilder();
        seen.append(suite.ways()).append(' ');
        for (int k = 0; k < 6; k++) {
            seen.append(suite.ranked(k)).append(' ').append(rankedSplit(suite, k)).append(' ');
        }
        for (int way = 0; way < 3; way++) {
            suite.split(way);
            seen.append(result(suite)).append(' ');
        }
        return seen.append(suite.type(0)).append(' ').append(suite.wipe()).toString();
    }

    private static String sumsSide(TokenSuite suite) {
        StringBuilder seen = new StringBuilder();
        for (int way = 0; way < 3; way++) {
            seen.append(suite.load(way)).append(' ');
        }
        seen.append(suite.expense()).append(' ');
        for (int x = 0; x < MOST_TOKENS; x++) {
            seen.append(suite.worth(x)).append(' ');
        }
        return seen.toString();
    }

    private static String frequenciesSide(TokenSuite suite, int first) {
        StringBuilder seen = new StringBuilder();
        for (int x = first; x < first + MOST_TOKENS / 2; x++) {
            for (int y = 0; y < MOST_TOKENS; y++) {
                seen.append(suite.frequency(x, y)).append(' ');
            }
        }
        return seen.toString();
    }

    private static String wordsSide(TokenSuite suite) {
        StringBuilder seen = new StringBuilder();
        while (suite.tokens() > 6) {
            suite.unlearn();
        }
        for (int letter = 0; letter < 6; letter++) {
            suite.price(letter, letter + 1);
        }
        int left = 0;
        while (left >= 0) {
            seen.append(suite.expense()).append(' ').append(suite.load(0)).append(' ');
            seen.append(suite.spell(0)).append(' ').append(suite.frequency(0, 1)).append(' ');
            left = suite.dropWord();
            seen.append(left).append(' ');
        }
        return seen.toString();
    }

    private static String learningSide(TokenSuite suite) {
        StringBuilder seen = new StringBuilder();
        seen.append(suite.learn()).append(' ').append(suite.tokens()).append(' ');
        seen.append(suite.left(suite.tokens() - 1)).append(' ');
        seen.append(suite.right(suite.tokens() - 1)).append(' ');
        return seen.append(suite.word(1)).append(' ').append(suite.unlearn()).toString();
    }

    private static void same(String call, ToIntFunction<TokenSuite> made, String state, String side) {
        TokenSuite called = STATES.get(state).get();
        made.applyAsInt(called);
        String got = SIDES.get(side).apply(called);
        String want = SIDES.get(side).apply(STATES.get(state).get());
        due(call + " on " + state + ", then " + side, got, want);
    }

    private static void same(String call, ToIntFunction<TokenSuite> made, String state) {
        for (String side : SIDES.keySet()) {
            same(call, made, state, side);
        }
    }

    private static void refused(String call, int answer, ToIntFunction<TokenSuite> made, String... states) {
        for (String state : states.length == 0 ? STATES.keySet().toArray(new String[0]) : states) {
            due(call + " on " + state, made.applyAsInt(STATES.get(state).get()), answer);
            same(call, made, state);
        }
    }

    private static void question(String call, ToIntFunction<TokenSuite> made) {
        for (String state : STATES.keySet()) {
            same(call, made, state);
        }
    }

    /** A call that may change all but the sides named; in some states it may be refused, too. */
    private static void leaves(String call, ToIntFunction<TokenSuite> made, String... sides) {
        for (String state : STATES.keySet()) {
            for (String side : sides) {
                same(call, made, state, side);
            }
        }
    }

    private static void refusedForWords() {
        refused("word(0)", BAD, s -> s.word(0));
        refused("word(51)", BAD, s -> s.word(51));
        refused("word(50)", FULL, s -> s.word(50), "full");
        refused("spell(-1)", BAD, s -> s.spell(-1));
        refused("spell(6)", BAD, s -> s.spell(6));
        refused("spell(1)", NONE, s -> s.spell(1), "new", "wordless");
        refused("spell(1)", FULL, s -> s.spell(1), "full");
        refused("dropWord()", NONE, s -> s.dropWord(), "new", "wordless");
    }

    private static void refusedForTokens() {
        refused("learn()", NONE, s -> s.learn(), "new", "wordless", "fullWithoutPairs");
        refused("learn()", FULL, s -> s.learn(), "full");
        refused("unlearn()", NONE, s -> s.unlearn(), "new", "forgetful");
        for (int x : new int[] {-1, 20}) {
            refused("frequency(x, 0)", BAD, s -> s.frequency(x, 0));
            refused("frequency(0, x)", BAD, s -> s.frequency(0, x));
            refused("left(x)", BAD, s -> s.left(x));
            refused("right(x)", BAD, s -> s.right(x));
            refused("length(x)", BAD, s -> s.length(x));
            refused("letter(x, 0)", BAD, s -> s.letter(x, 0));
            refused("price(x, 9)", BAD, s -> s.price(x, 9));
            refused("worth(x)", BAD, s -> s.worth(x));
        }
        refused("left(5)", NONE, s -> s.left(5));
        refused("right(5)", NONE, s -> s.right(5));
        refused("letter(0, -1)", NONE, s -> s.letter(0, -1));
        refused("letter(0, 1)", NONE, s -> s.letter(0, 1));
        refused("price(0, 0)", BAD, s -> s.price(0, 0));
        refused("price(0, 100)", BAD, s -> s.price(0, 100));
        refused("price(6, 0)", BAD, s -> s.price(6, 0));
        refused("price(6, 100)", BAD, s -> s.price(6, 100));
        refused("worth(5)", NONE, s -> s.worth(5));
    }

    private static void refusedForTexts() {
        refused("type(-1)", BAD, s -> s.type(-1));
        refused("type(6)", BAD, s -> s.type(6));
        refused("type(1)", FULL, s -> s.type(1), "full");
        refused("split(-1)", BAD, s -> s.split(-1));
        refused("split(3)", BAD, s -> s.split(3));
        refused("at(-1)", NONE, s -> s.at(-1));
        refused("at(12)", NONE, s -> s.at(12));
        refused("ranked(-1)", BAD, s -> s.ranked(-1));
        refused("ranked(6)", BAD, s -> s.ranked(6));
        refused("ranked(1)", NONE, s -> s.ranked(1), "new", "forgetful");
        refused("rankedAt(-1, 0)", BAD, s -> s.rankedAt(-1, 0));
        refused("rankedAt(6, 0)", BAD, s -> s.rankedAt(6, 0));
        refused("rankedAt(1, 0)", NONE, s -> s.rankedAt(1, 0), "new", "forgetful");
        refused("rankedAt(0, -1)", NONE, s -> s.rankedAt(0, -1));
        refused("rankedAt(0, 12)", NONE, s -> s.rankedAt(0, 12));
        refused("load(-1)", BAD, s -> s.load(-1));
        refused("load(3)", BAD, s -> s.load(3));
    }

    private static void questions() {
        question("frequency(0, 1)", s -> s.frequency(0, 1));
        question("frequency(6, 2)", s -> s.frequency(6, 2));
        question("tokens()", s -> s.tokens());
        question("left(6)", s -> s.left(6));
        question("right(6)", s -> s.right(6));
        question("length(6)", s -> s.length(6));
        question("letter(6, 1)", s -> s.letter(6, 1));
        question("size()", s -> s.size());
        question("at(0)", s -> s.at(0));
        question("cost()", s -> s.cost());
        question("ways()", s -> s.ways());
        question("ranked(0)", s -> s.ranked(0));
        question("ranked(5)", s -> s.ranked(5));
        question("rankedAt(0, 0)", s -> s.rankedAt(0, 0));
        question("rankedAt(1, 1)", s -> s.rankedAt(1, 1));
        for (int way = 0; way < 3; way++) {
            int asked = way;
            question("load(" + way + ")", s -> s.load(asked));
        }
        question("expense()", s -> s.expense());
        question("worth(6)", s -> s.worth(6));
    }

    private static void leftAsItWas() {
        String low = "frequencies of 0 .. 9";
        String high = "frequencies of 10 .. 19";
        leaves("word(50)", s -> s.word(50), "tokens", "row", "result", "text", "sums", low, high);
        leaves("spell(1)", s -> s.spell(1), "tokens", "row", "result", "text");
        leaves("dropWord()", s -> s.dropWord(), "tokens", "row", "result", "text");
        leaves("learn()", s -> s.learn(), "row", "words");
        leaves("unlearn()", s -> s.unlearn(), "row", "words");
        leaves("price(0, 9)", s -> s.price(0, 9), "row", "words", "learning", low, high);
        leaves("price(6, 9)", s -> s.price(6, 9), "row", "words", "learning", low, high);
        leaves("type(1)", s -> s.type(1), "tokens", "row", "result", "sums", low, high, "words", "learning");
        leaves("wipe()", s -> s.wipe(), "tokens", "row", "result", "sums", low, high, "words", "learning");
        for (int way = 0; way < 3; way++) {
            int asked = way;
            leaves("split(" + way + ")", s -> s.split(asked), "tokens", "text", "sums", low, high, "words",
                    "learning");
        }
    }

    private static void answersUpToTheLastCall() {
        TokenSuite suite = new TokenSuite();
        add(suite, 2, "0000");
        int calls = 5;
        while (calls + 8 < MOST_CALLS) {
            String round = " in the round behind call " + calls;
            due("learn" + round, suite.learn(), 6);
            due("learn once more" + round, suite.learn(), 7);
            due("type" + round, suite.type(0), 1);
            due("split" + round, suite.split(2), 1);
            due("wipe" + round, suite.wipe(), 1);
            due("expense" + round, suite.expense(), 50);
            due("unlearn" + round, suite.unlearn(), 7);
            due("unlearn once more" + round, suite.unlearn(), 6);
            calls += 8;
        }
        for (int typed = 1; calls < MOST_CALLS; typed++) {
            due("type at the end", suite.type(0), typed);
            calls++;
        }
    }

    public static void main(String[] args) {
        STATES.put("new", TokenSuite::new);
        STATES.put("ordinary", NothingChangesTest::ordinary);
        STATES.put("full", NothingChangesTest::full);
        STATES.put("fullWithoutPairs", NothingChangesTest::fullWithoutPairs);
        STATES.put("forgetful", NothingChangesTest::forgetful);
        STATES.put("wordless", NothingChangesTest::wordless);
        SIDES.put("tokens", NothingChangesTest::tokensSide);
        SIDES.put("row", Checks::result);
        SIDES.put("result", NothingChangesTest::resultSide);
        SIDES.put("text", NothingChangesTest::textSide);
        SIDES.put("sums", NothingChangesTest::sumsSide);
        SIDES.put("frequencies of 0 .. 9", suite -> frequenciesSide(suite, 0));
        SIDES.put("frequencies of 10 .. 19", suite -> frequenciesSide(suite, 10));
        SIDES.put("words", NothingChangesTest::wordsSide);
        SIDES.put("learning", NothingChangesTest::learningSide);
        sentence("Terms", "A refused call [..] changes nothing", NothingChangesTest::refusedForWords);
        sentence("Terms", "A refused call [..] changes nothing", NothingChangesTest::refusedForTokens);
        sentence("Terms", "A refused call [..] changes nothing", NothingChangesTest::refusedForTexts);
        sentence("Terms", "Questions change nothing", NothingChangesTest::questions);
        sentence("Not promised", "Nothing is promised beyond the answers and state changes described above",
                NothingChangesTest::leftAsItWas);
        sentence("What it is", "An object is used for at most 512 calls",
                NothingChangesTest::answersUpToTheLastCall);
        end();
    }
}

import java.util.ArrayList;
import java.util.Comparator;
import java.util.HashSet;
import java.util.List;

// Compares long runs of calls with a plain second implementation, which lists all splits and sorts.
public final class ModelTest {
    private static final int RUNS = 400;
    private static final int CALLS = 512;
    private static final int METHODS = Calls.NAMES.length;

    private static int wrong = 0;
    private static final int[][] seen = new int[METHODS][4];

    public static void main(String[] args) {
        for (int run = 0; run < RUNS && wrong < 20; run++) {
            compareRun(run);
        }
        checkCoverage();
        if (wrong > 0) {
            System.exit(1);
        }
        System.out.println("the model agrees in " + RUNS + " runs");
    }

    private static void compareRun(int run) {
        TokenSuite suite = new TokenSuite();
        Model model = new Model();
        int alphabet = 1 + run % 6;
        for (int call = 0; call < CALLS; call++) {
            // Few words and letters early, so that there is something to learn and to split.
            int method = call < 120 ? Calls.pick(3) == 0 ? 3 : Calls.pick(2) : Calls.pick(METHODS);
            if (call >= 120 && Calls.pick(4) == 0) {
                method = new int[] {1, 3, 12, 12}[Calls.pick(4)];
            }
            int letter = Calls.pick(25) == 0 ? Calls.pickBetween(-1, 6) : Calls.pick(alphabet);
            int a = Calls.pick(60) == 0 ? Calls.pickFar() : firstArgument(method, letter, model);
            int b = Calls.pick(60) == 0 ? Calls.pickFar() : secondArgument(method, model);
            int got = Calls.call(suite, method, a, b);
            int want = model.call(method, a, b);
            seen[method][got < 0 ? -got : 0]++;
            if (got != want) {
                wrong++;
                System.out.println("run " + run + ", call " + call + ": " + Calls.NAMES[method] + " (of " + a
                        + ", " + b + ") answered " + got + ", due is " + want);
                return;
            }
            // The rule for tokens that spell the same has no test, as none are ever learned: see if so.
            if (model.someSpellTheSame()) {
                wrong++;
                System.out.println("run " + run + ", call " + call + ": two tokens spell the same");
                return;
            }
        }
    }

    private static int firstArgument(int method, int letter, Model model) {
        switch (method) {
            case 0:
                return Calls.pick(10) == 0 ? Calls.pickBetween(-1, 52) : Calls.pickBetween(1, 50);
            case 1:
            case 12:
                return letter;
            case 14:
            case 21:
                return Calls.pickBetween(-1, 3);
            case 16:
                return Calls.pickBetween(-1, 12);
            case 19:
            case 20:
                return Calls.pickBetween(-1, 6);
            default:
                return Calls.pickBetween(-1, model.prices.size());
        }
    }

    private static int secondArgument(int method, Model model) {
        switch (method) {
            case 5:
                return Calls.pickBetween(-1, model.prices.size());
            case 11:
                return Calls.pick(10) == 0 ? Calls.pickBetween(-1, 101) : 5 * Calls.pickBetween(1, 12);
            default:
                return Calls.pickBetween(-1, 12);
        }
    }

    /** A comparison that never met an answer shows nothing of it. */
    private static void checkCoverage() {
        // By method: does it answer BAD, NONE, FULL?
        String[] due = {"B-F", "BNF", "-N-", "-NF", "-N-", "B--", "---", "BN-", "BN-", "B--", "BN-", "B--",
            "B-F", "---", "B--", "---", "-N-", "---", "---", "BN-", "BN-", "B--", "---", "BN-"};
        for (int method = 0; method < METHODS; method++) {
            for (int kind = 0; kind < 4; kind++) {
                boolean expected = kind == 0 || due[method].charAt(kind - 1) != '-';
                if (expected != (seen[method][kind] > 0)) {
                    wrong++;
                    System.out.println(Calls.NAMES[method] + " gave answers of kind " + -kind + " "
                            + seen[method][kind] + " times");
                }
            }
        }
    }
}

final class Model {
    private static final int BAD = -1;
    private static final int NONE = -2;
    private static final int FULL = -3;

    private final List<Integer> counts = new ArrayList<>();
    private final List<String> words = new ArrayList<>();
    private final List<int[]> parts = new ArrayList<>();
    private final List<String> spelled = new ArrayList<>();
    final List<Integer> prices = new ArrayList<>();
    private String text = "";
    private List<Integer> result = new ArrayList<>();

    Model() {
        for (int letter = 0; letter < 6; letter++) {
            parts.add(new int[0]);
            spelled.add("" + letter);
            prices.add(20);
        }
    }

    int call(int method, int a, int b) {
        switch (method) {
            case 0: return word(a);
            case 1: return spell(a);
            case 2: return dropWord();
            case 3: return learn();
            case 4: return unlearn();
            case 5: return !good(a) || !good(b) ? BAD : frequency(a, b);
            case 6: return prices.size();
            case 7: return !good(a) ? BAD : a < 6 ? NONE : parts.get(a)[0];
            case 8: return !good(a) ? BAD : a < 6 ? NONE : parts.get(a)[1];
            case 9: return !good(a) ? BAD : spelled.get(a).length();
            case 10: return letter(a, b);
            case 11: return !good(a) || b < 1 || b > 99 ? BAD : prices.set(a, b);
            case 12: return type(a);
            case 13: return wipe();
            case 14: return split(a);
            case 15: return result.size();
            case 16: return get(result, a);
            case 17: return cost();
            case 18: return splits(text, -1).size();
            case 19: return ranked(a);
            case 20: return rankedAt(a, b);
            case 21: return load(a);
            case 22: return expense(-1);
            default: return !good(a) ? BAD : a < 6 ? NONE : expense(a) - expense(-1);
        }
    }

    boolean someSpellTheSame() {
        return new HashSet<>(spelled).size() < spelled.size();
    }

    private boolean good(int x) {
        return 0 <= x && x < prices.size();
    }

    private static int get(List<Integer> list, int i) {
        return 0 <= i && i < list.size() ? list.get(i) : NONE;
    }

    private int word(int count) {
        if (count < 1 || count > 50) {
            return BAD;
        }
        if (words.size() == 12) {
            return FULL;
        }
        counts.add(count);
        words.add("");
        return words.size();
    }

    private int spell(int letter) {
        if (letter < 0 || letter > 5) {
            return BAD;
        }
        if (words.isEmpty()) {
            return NONE;
        }
        String last = words.get(words.size() - 1);
        if (last.length() == 8) {
            return FULL;
        }
        words.set(words.size() - 1, last + letter);
        return last.length() + 1;
    }

    private int dropWord() {
        if (words.isEmpty()) {
            return NONE;
        }
        counts.remove(counts.size() - 1);
        words.remove(words.size() - 1);
        return words.size();
    }

    private int learn() {
        int greatest = 1;
        int[] pair = null;
        for (int x = 0; x < prices.size(); x++) {
            for (int y = 0; y < prices.size(); y++) {
                int frequency = frequency(x, y);
                if (frequency > greatest) {
                    greatest = frequency;
                    pair = new int[] {x, y};
                }
            }
        }
        if (pair == null) {
            return NONE;
        }
        if (prices.size() == 20) {
            return FULL;
        }
        parts.add(pair);
        spelled.add(spelled.get(pair[0]) + spelled.get(pair[1]));
        prices.add(25);
        return prices.size() - 1;
    }

    private int unlearn() {
        if (prices.size() == 6) {
            return NONE;
        }
        int last = prices.size() - 1;
        parts.remove(last);
        spelled.remove(last);
        prices.remove(last);
        return last;
    }

    private int frequency(int x, int y) {
        int sum = 0;
        for (int w = 0; w < words.size(); w++) {
            List<Integer> merged = merge(words.get(w));
            for (int i = 0; i + 1 < merged.size(); i++) {
                if (merged.get(i) == x && merged.get(i + 1) == y) {
                    sum += counts.get(w);
                }
            }
        }
        return sum;
    }

    private int letter(int x, int i) {
        if (!good(x)) {
            return BAD;
        }
        return 0 <= i && i < spelled.get(x).length() ? spelled.get(x).charAt(i) - '0' : NONE;
    }

    private int type(int letter) {
        if (letter < 0 || letter > 5) {
            return BAD;
        }
        if (text.length() == 12) {
            return FULL;
        }
        text += letter;
        return text.length();
    }

    private int wipe() {
        int before = text.length();
        text = "";
        return before;
    }

    private int split(int way) {
        if (way < 0 || way > 2) {
            return BAD;
        }
        result = split(text, way);
        return result.size();
    }

    private int cost() {
        int sum = 0;
        for (int token : result) {
            sum += good(token) ? prices.get(token) : 0;
        }
        return sum;
    }

    private int ranked(int k) {
        if (k < 0 || k > 5) {
            return BAD;
        }
        List<List<Integer>> all = splits(text, -1);
        return k < all.size() ? sum(all.get(k)) : NONE;
    }

    private int rankedAt(int k, int i) {
        if (k < 0 || k > 5) {
            return BAD;
        }
        List<List<Integer>> all = splits(text, -1);
        return k < all.size() ? get(all.get(k), i) : NONE;
    }

    private int load(int way) {
        if (way < 0 || way > 2) {
            return BAD;
        }
        int sum = 0;
        for (int w = 0; w < words.size(); w++) {
            sum += counts.get(w) * split(words.get(w), way).size();
        }
        return sum;
    }

    private int expense(int banned) {
        int sum = 0;
        for (int w = 0; w < words.size(); w++) {
            sum += counts.get(w) * sum(splits(words.get(w), banned).get(0));
        }
        return sum;
    }

    private List<Integer> split(String letters, int way) {
        return way == 0 ? merge(letters) : way == 1 ? longestFirst(letters) : splits(letters, -1).get(0);
    }

    private List<Integer> merge(String letters) {
        List<Integer> tokens = new ArrayList<>();
        for (char letter : letters.toCharArray()) {
            tokens.add(letter - '0');
        }
        for (int token = 6; token < prices.size(); token++) {
            for (int i = 0; i + 1 < tokens.size(); i++) {
                if (tokens.get(i) == parts.get(token)[0] && tokens.get(i + 1) == parts.get(token)[1]) {
                    tokens.set(i, token);
                    tokens.remove(i + 1);
                }
            }
        }
        return tokens;
    }

    private List<Integer> longestFirst(String letters) {
        List<Integer> tokens = new ArrayList<>();
        String rest = letters;
        while (!rest.isEmpty()) {
            int best = -1;
            for (int token = 0; token < prices.size(); token++) {
                boolean longer = best < 0 || spelled.get(token).length() > spelled.get(best).length();
                if (longer && rest.startsWith(spelled.get(token))) {
                    best = token;
                }
            }
            tokens.add(best);
            rest = rest.substring(spelled.get(best).length());
        }
        return tokens;
    }

    private int sum(List<Integer> tokens) {
        int sum = 0;
        for (int token : tokens) {
            sum += prices.get(token);
        }
        return sum;
    }

    private List<List<Integer>> splits(String letters, int banned) {
        List<List<Integer>> all = new ArrayList<>();
        collect(letters, banned, new ArrayList<>(), all);
        Comparator<List<Integer>> bySum = Comparator.comparingInt(this::sum);
        all.sort(bySum.thenComparingInt(List::size).thenComparing(Model::compareTokens));
        return all;
    }

    private static int compareTokens(List<Integer> one, List<Integer> other) {
        for (int i = 0; i < one.size(); i++) {
            if (!one.get(i).equals(other.get(i))) {
                return one.get(i) - other.get(i);
            }
        }
        return 0;
    }

    private void collect(String rest, int banned, List<Integer> begun, List<List<Integer>> all) {
        if (rest.isEmpty()) {
            all.add(new ArrayList<>(begun));
            return;
        }
        for (int token = 0; token < prices.size(); token++) {
            if (token != banned && rest.startsWith(spelled.get(token))) {
                begun.add(token);
                collect(rest.substring(spelled.get(token).length()), banned, begun, all);
                begun.remove(begun.size() - 1);
            }
        }
    }
}

public final class TokenSuite {
    public static final int BAD = -1;
    public static final int NONE = -2;
    public static final int FULL = -3;

    private static final int LETTERS = 6;
    private static final int MOST_WORDS = 12;
    private static final int MOST_WORD_LETTERS = 8;
    private static final int MOST_WORD_CELLS = MOST_WORDS * MOST_WORD_LETTERS;
    private static final int MOST_COUNT = 50;
    private static final int MOST_TOKENS = 20;
    private static final int MOST_PAIRS = MOST_TOKENS * MOST_TOKENS;
    private static final int LEAST_FREQUENCY = 2;
    private static final int LETTER_PRICE = 20;
    private static final int LEARNED_PRICE = 25;
    private static final int MOST_PRICE = 99;
    private static final int MOST_TEXT_LETTERS = 12;
    private static final int MOST_PLACES = MOST_TEXT_LETTERS + 1;
    private static final int RANKS = 6;
    private static final int MOST_SLOTS = MOST_PLACES * RANKS;

    private static final int MERGED = 0;
    private static final int LONGEST_FIRST = 1;
    private static final int CHEAPEST = 2;

    // A token is learned from two neighbours in one word, so none spells more than a word holds.
    private static final int MOST_SPELLING_CELLS = MOST_TOKENS * MOST_WORD_LETTERS;

    private static final int NO_TOKEN = -1;

    // A split's price sum and token number stand in one key, sum first, so that comparing keys is
    // comparing splits; no split has as many as 16 tokens.
    private static final int KEY_STEP = 16;

    private final int[] wordLetters = new int[MOST_WORD_CELLS];
    private final int[] wordLength = new int[MOST_WORDS];
    private final int[] wordCount = new int[MOST_WORDS];
    private int words = 0;

    private final int[] leftOf = new int[MOST_TOKENS];
    private final int[] rightOf = new int[MOST_TOKENS];
    private final int[] priceOf = new int[MOST_TOKENS];
    private final int[] spelling = new int[MOST_SPELLING_CELLS];
    private final int[] spellingLength = new int[MOST_TOKENS];
    private int tokenCount = LETTERS;

    private final int[] text = new int[MOST_TEXT_LETTERS];
    private int textLength = 0;
    private final int[] result = new int[MOST_TEXT_LETTERS];
    private int resultSize = 0;

    // From here on scratch: each call fills what it reads, so nothing here outlives a call.
    private final int[] row = new int[MOST_TEXT_LETTERS];
    private int rowLength = 0;
    private final int[] made = new int[MOST_TEXT_LETTERS];
    private int madeSize = 0;
    private final int[] pairFrequency = new int[MOST_PAIRS];
    private final int[] waysFrom = new int[MOST_PLACES];

    // Each place of the row has RANKS slots: the first splits, in order, of the letters from there
    // on. A slot names its first token and the slot, at a later place, of the rest.
    private final int[] slotsAt = new int[MOST_PLACES];
    private final int[] slotKey = new int[MOST_SLOTS];
    private final int[] slotToken = new int[MOST_SLOTS];
    private final int[] slotRest = new int[MOST_SLOTS];

    public TokenSuite() {
        for (int letter = 0; letter < LETTERS; letter++) {
            priceOf[letter] = LETTER_PRICE;
            spelling[letter * MOST_WORD_LETTERS] = letter;
            spellingLength[letter] = 1;
        }
    }

    public int word(int count) {
        if (count < 1 || count > MOST_COUNT) {
            return BAD;
        }
        if (words >= MOST_WORDS) {
            return FULL;
        }
        wordCount[words] = count;
        wordLength[words] = 0;
        words++;
        return words;
    }

    public int spell(int letter) {
        if (!isLetter(letter)) {
            return BAD;
        }
        if (words == 0) {
            return NONE;
        }
        int last = words - 1;
        if (wordLength[last] >= MOST_WORD_LETTERS) {
            return FULL;
        }
        wordLetters[last * MOST_WORD_LETTERS + wordLength[last]] = letter;
        wordLength[last]++;
        return wordLength[last];
    }

    public int dropWord() {
        if (words == 0) {
            return NONE;
        }
        words--;
        return words;
    }

    public int learn() {
        countPairs();
        int pair = mostFrequentPair();
        if (pairFrequency[pair] < LEAST_FREQUENCY) {
            return NONE;
        }
        if (tokenCount >= MOST_TOKENS) {
            return FULL;
        }
        int token = tokenCount;
        leftOf[token] = pair / MOST_TOKENS;
        rightOf[token] = pair % MOST_TOKENS;
        priceOf[token] = LEARNED_PRICE;
        spellingLength[token] = 0;
        appendSpelling(token, leftOf[token]);
        appendSpelling(token, rightOf[token]);
        tokenCount++;
        return token;
    }

    public int unlearn() {
        if (tokenCount <= LETTERS) {
            return NONE;
        }
        tokenCount--;
        return tokenCount;
    }

    public int frequency(int x, int y) {
        if (!isToken(x) || !isToken(y)) {
            return BAD;
        }
        countPairs();
        return pairFrequency[x * MOST_TOKENS + y];
    }

    public int tokens() {
        return tokenCount;
    }

    public int left(int x) {
        if (!isToken(x)) {
            return BAD;
        }
        return isLetter(x) ? NONE : leftOf[x];
    }

    public int right(int x) {
        if (!isToken(x)) {
            return BAD;
        }
        return isLetter(x) ? NONE : rightOf[x];
    }

    public int length(int x) {
        return isToken(x) ? spellingLength[x] : BAD;
    }

    public int letter(int x, int i) {
        if (!isToken(x)) {
            return BAD;
        }
        if (i < 0 || i >= spellingLength[x]) {
            return NONE;
        }
        return spelling[x * MOST_WORD_LETTERS + i];
    }

    public int price(int x, int price) {
        if (!isToken(x) || price < 1 || price > MOST_PRICE) {
            return BAD;
        }
        int before = priceOf[x];
        priceOf[x] = price;
        return before;
    }

    public int type(int letter) {
        if (!isLetter(letter)) {
            return BAD;
        }
        if (textLength >= MOST_TEXT_LETTERS) {
            return FULL;
        }
        text[textLength] = letter;
        textLength++;
        return textLength;
    }

    public int wipe() {
        int before = textLength;
        textLength = 0;
        return before;
    }

    public int split(int way) {
        if (!isWay(way)) {
            return BAD;
        }
        takeText();
        splitRow(way);
        for (int i = 0; i < madeSize; i++) {
            result[i] = made[i];
        }
        resultSize = madeSize;
        return resultSize;
    }

    public int size() {
        return resultSize;
    }

    public int at(int i) {
        if (i < 0 || i >= resultSize) {
            return NONE;
        }
        return result[i];
    }

    public int cost() {
        int sum = 0;
        for (int i = 0; i < resultSize; i++) {
            // The result may name tokens that were forgotten since.
            if (result[i] < tokenCount) {
                sum += priceOf[result[i]];
            }
        }
        return sum;
    }

    public int ways() {
        takeText();
        waysFrom[rowLength] = 1;
        for (int place = rowLength - 1; place >= 0; place--) {
            waysFrom[place] = 0;
            for (int token = 0; token < tokenCount; token++) {
                if (fits(token, place)) {
                    waysFrom[place] += waysFrom[place + spellingLength[token]];
                }
            }
        }
        return waysFrom[0];
    }

    public int ranked(int k) {
        if (!isRank(k)) {
            return BAD;
        }
        takeText();
        rankSplits(NO_TOKEN);
        return k < slotsAt[0] ? slotKey[k] / KEY_STEP : NONE;
    }

    public int rankedAt(int k, int i) {
        if (!isRank(k)) {
            return BAD;
        }
        takeText();
        rankSplits(NO_TOKEN);
        if (k >= slotsAt[0]) {
            return NONE;
        }
        readSplit(k);
        return i >= 0 && i < madeSize ? made[i] : NONE;
    }

    public int load(int way) {
        if (!isWay(way)) {
            return BAD;
        }
        int sum = 0;
        for (int w = 0; w < words; w++) {
            takeWord(w);
            splitRow(way);
            sum += wordCount[w] * madeSize;
        }
        return sum;
    }

    public int expense() {
        return expenseWithout(NO_TOKEN);
    }

    public int worth(int x) {
        if (!isToken(x)) {
            return BAD;
        }
        if (isLetter(x)) {
            return NONE;
        }
        int without = expenseWithout(x);
        int with = expenseWithout(NO_TOKEN);
        return without - with;
    }

    private static boolean isLetter(int letter) {
        return letter >= 0 && letter < LETTERS;
    }

    private static boolean isWay(int way) {
        return way >= MERGED && way <= CHEAPEST;
    }

    private static boolean isRank(int k) {
        return k >= 0 && k < RANKS;
    }

    private boolean isToken(int x) {
        return x >= 0 && x < tokenCount;
    }

    private void appendSpelling(int token, int part) {
        for (int i = 0; i < spellingLength[part]; i++) {
            int end = spellingLength[token] + i;
            spelling[token * MOST_WORD_LETTERS + end] = spelling[part * MOST_WORD_LETTERS + i];
        }
        spellingLength[token] += spellingLength[part];
    }

    private void takeText() {
        for (int i = 0; i < textLength; i++) {
            row[i] = text[i];
        }
        rowLength = textLength;
    }

    private void takeWord(int w) {
        for (int i = 0; i < wordLength[w]; i++) {
            row[i] = wordLetters[w * MOST_WORD_LETTERS + i];
        }
        rowLength = wordLength[w];
    }

    private void countPairs() {
        for (int pair = 0; pair < MOST_PAIRS; pair++) {
            pairFrequency[pair] = 0;
        }
        for (int w = 0; w < words; w++) {
            takeWord(w);
            mergeRow();
            for (int i = 1; i < madeSize; i++) {
                pairFrequency[made[i - 1] * MOST_TOKENS + made[i]] += wordCount[w];
            }
        }
    }

    private int mostFrequentPair() {
        int most = 0;
        // Pairs stand in the order of their tokens, so of equals the first one met is due.
        for (int pair = 1; pair < MOST_PAIRS; pair++) {
            if (pairFrequency[pair] > pairFrequency[most]) {
                most = pair;
            }
        }
        return most;
    }

    private void splitRow(int way) {
        if (way == MERGED) {
            mergeRow();
        } else if (way == LONGEST_FIRST) {
            splitLongestFirst();
        } else {
            rankSplits(NO_TOKEN);
            readSplit(0);
        }
    }

    private void mergeRow() {
        for (int i = 0; i < rowLength; i++) {
            made[i] = row[i];
        }
        madeSize = rowLength;
        for (int token = LETTERS; token < tokenCount; token++) {
            mergePairs(token);
        }
    }

    private void mergePairs(int token) {
        int size = madeSize;
        int kept = 0;
        int next = 0;
        for (int i = 0; i < size; i++) {
            if (i == next) {
                boolean paired = i + 1 < size && made[i] == leftOf[token] && made[i + 1] == rightOf[token];
                made[kept] = paired ? token : made[i];
                kept++;
                next = paired ? i + 2 : i + 1;
            }
        }
        madeSize = kept;
    }

    private void splitLongestFirst() {
        madeSize = 0;
        int next = 0;
        for (int place = 0; place < rowLength; place++) {
            if (place == next) {
                int token = longestAt(place);
                made[madeSize] = token;
                madeSize++;
                next = place + spellingLength[token];
            }
        }
    }

    private int longestAt(int place) {
        // The letter that stands there always fits.
        int longest = row[place];
        for (int token = LETTERS; token < tokenCount; token++) {
            if (spellingLength[token] > spellingLength[longest] && fits(token, place)) {
                longest = token;
            }
        }
        return longest;
    }

    private boolean fits(int token, int place) {
        if (place + spellingLength[token] > rowLength) {
            return false;
        }
        for (int i = 0; i < spellingLength[token]; i++) {
            if (row[place + i] != spelling[token * MOST_WORD_LETTERS + i]) {
                return false;
            }
        }
        return true;
    }

    private void rankSplits(int banned) {
        slotsAt[rowLength] = 1;
        slotKey[rowLength * RANKS] = 0;
        for (int place = rowLength - 1; place >= 0; place--) {
            slotsAt[place] = 0;
            for (int token = 0; token < tokenCount; token++) {
                if (token != banned && fits(token, place)) {
                    offerSplits(place, token);
                }
            }
        }
    }

    private void offerSplits(int place, int token) {
        int behind = place + spellingLength[token];
        int rests = slotsAt[behind];
        for (int rank = 0; rank < rests; rank++) {
            offerSplit(place, token, behind * RANKS + rank);
        }
    }

    private void offerSplit(int place, int token, int rest) {
        int key = slotKey[rest] + priceOf[token] * KEY_STEP + 1;
        int first = place * RANKS;
        int rank = slotsAt[place];
        // Splits are offered by first token and then by rest, both in order, so one that ties with
        // another comes behind it without a look at their tokens.
        while (rank > 0 && key < slotKey[first + rank - 1]) {
            rank--;
        }
        if (rank >= RANKS) {
            return;
        }
        if (slotsAt[place] < RANKS) {
            slotsAt[place]++;
        }
        for (int slot = first + slotsAt[place] - 1; slot > first + rank; slot--) {
            slotKey[slot] = slotKey[slot - 1];
            slotToken[slot] = slotToken[slot - 1];
            slotRest[slot] = slotRest[slot - 1];
        }
        slotKey[first + rank] = key;
        slotToken[first + rank] = token;
        slotRest[first + rank] = rest;
    }

    private void readSplit(int rank) {
        madeSize = slotKey[rank] % KEY_STEP;
        int slot = rank;
        for (int i = 0; i < madeSize; i++) {
            made[i] = slotToken[slot];
            slot = slotRest[slot];
        }
    }

    private int expenseWithout(int banned) {
        int sum = 0;
        for (int w = 0; w < words; w++) {
            takeWord(w);
            rankSplits(banned);
            sum += wordCount[w] * (slotKey[0] / KEY_STEP);
        }
        return sum;
    }
}

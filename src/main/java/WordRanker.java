/**
 * Three stored regular expressions over the letters 0 and 1, and the words that a Boolean
 * combination of them picks out: how many there are, which is the k-th, how many come before one.
 *
 * <p>A word is held as its code: the binary number whose first digit is 1 and whose other digits
 * are the word's letters. The empty word has code 1, the words of length len have the codes from
 * 2^len to 2^(len+1) - 1, and codes grow just as words follow each other in the document's order.
 *
 * <p>A language is held as one cell for each code. Words longer than N have no cell: every operation
 * makes a word out of words that are no longer than it, so they never reach an answer.
 */
public final class WordRanker {
    public static final int BAD_ARG = -1;
    public static final int FULL = -2;
    public static final int TOO_FEW = -3;

    private static final int GREATEST_LENGTH = 7;
    private static final int MOST_EXPRESSIONS = 8;
    private static final int MOST_LETTERS = 12;
    private static final int SLOT_COUNT = 3;
    private static final int GREATEST_TABLE = 255;
    private static final int FIRST_TABLE = 170;

    private static final int CELLS = 256;
    private static final int STACK_CELLS = MOST_EXPRESSIONS * CELLS;
    private static final int SLOT_CELLS = SLOT_COUNT * CELLS;

    private static final int NO_WORD = 0;
    private static final int EMPTY_WORD = 1;
    private static final int WORD_0 = 2;
    private static final int WORD_1 = 3;

    private final boolean[] stack = new boolean[STACK_CELLS];
    private final int[] lettersOf = new int[MOST_EXPRESSIONS];
    private final boolean[] slots = new boolean[SLOT_CELLS];
    private final int maxLength;
    private int onStack;
    private int chosenTable;

    public WordRanker(int maxLen) {
        maxLength = maxLen < 1 ? 1 : maxLen > GREATEST_LENGTH ? GREATEST_LENGTH : maxLen;
        onStack = 0;
        chosenTable = FIRST_TABLE;
    }

    public int letter(int c) {
        if (c < 0 || c > 2) {
            return BAD_ARG;
        }
        if (onStack >= MOST_EXPRESSIONS || letters() >= MOST_LETTERS) {
            return FULL;
        }
        pushNoWord();
        int top = topStart();
        stack[top + WORD_0] = c != 1;
        stack[top + WORD_1] = c != 0;
        lettersOf[onStack - 1] = 1;
        return onStack;
    }

    public int unit() {
        if (onStack >= MOST_EXPRESSIONS) {
            return FULL;
        }
        pushNoWord();
        addEmptyWordToTop();
        return onStack;
    }

    public int none() {
        if (onStack >= MOST_EXPRESSIONS) {
            return FULL;
        }
        pushNoWord();
        return onStack;
    }

    public int cat() {
        if (onStack < 2) {
            return TOO_FEW;
        }
        int upper = topStart();
        int lower = upper - CELLS;
        // Longest first: a word's heads are shorter, so the lower language is still there to be read.
        for (int len = maxLength; len >= 0; len--) {
            for (int word = 1 << len; word < 2 << len; word++) {
                stack[lower + word] = isSplit(lower, upper, word, 0, len);
            }
        }
        mergeTopIntoLower();
        return onStack;
    }

    public int alt() {
        if (onStack < 2) {
            return TOO_FEW;
        }
        int upper = topStart();
        int lower = upper - CELLS;
        for (int word = EMPTY_WORD; word < 2 << maxLength; word++) {
            stack[lower + word] = stack[lower + word] || stack[upper + word];
        }
        mergeTopIntoLower();
        return onStack;
    }

    public int star() {
        if (onStack < 1) {
            return TOO_FEW;
        }
        repeatTop();
        addEmptyWordToTop();
        return onStack;
    }

    public int plus() {
        if (onStack < 1) {
            return TOO_FEW;
        }
        repeatTop();
        return onStack;
    }

    public int opt() {
        if (onStack < 1) {
            return TOO_FEW;
        }
        addEmptyWordToTop();
        return onStack;
    }

    public int reverse() {
        if (onStack < 1) {
            return TOO_FEW;
        }
        int top = topStart();
        for (int len = 2; len <= maxLength; len++) {
            for (int word = 1 << len; word < 2 << len; word++) {
                int mirrored = mirror(word, len);
                // Each pair is swapped once: a second swap would undo the first.
                if (word < mirrored) {
                    boolean kept = stack[top + word];
                    stack[top + word] = stack[top + mirrored];
                    stack[top + mirrored] = kept;
                }
            }
        }
        return onStack;
    }

    public int store(int slot) {
        if (slot < 0 || slot >= SLOT_COUNT) {
            return BAD_ARG;
        }
        if (onStack < 1) {
            return TOO_FEW;
        }
        int from = topStart();
        int to = slot * CELLS;
        for (int word = EMPTY_WORD; word < 2 << maxLength; word++) {
            slots[to + word] = stack[from + word];
        }
        onStack--;
        return onStack;
    }

    public void discard() {
        onStack = 0;
    }

    public int depth() {
        return onStack;
    }

    public int letters() {
        int sum = 0;
        for (int place = 0; place < onStack; place++) {
            sum += lettersOf[place];
        }
        return sum;
    }

    public int choose(int table) {
        if (table < 0 || table > GREATEST_TABLE) {
            return BAD_ARG;
        }
        int before = chosenTable;
        chosenTable = table;
        return before;
    }

    public int count(int len) {
        if (!isLength(len)) {
            return BAD_ARG;
        }
        return countChosen(1 << len, 2 << len);
    }

    public int total() {
        return countChosen(EMPTY_WORD, 2 << maxLength);
    }

    public int isChosen(int len, int bits) {
        if (!isValid(len, bits)) {
            return BAD_ARG;
        }
        return isPicked((1 << len) + bits) ? 1 : 0;
    }

    public int rank(int len, int bits) {
        if (!isValid(len, bits)) {
            return BAD_ARG;
        }
        return countChosen(EMPTY_WORD, (1 << len) + bits);
    }

    public int wordLen(int k) {
        int word = findChosen(k);
        return word == NO_WORD ? BAD_ARG : lengthOf(word);
    }

    public int wordBits(int k) {
        int word = findChosen(k);
        return word == NO_WORD ? BAD_ARG : word - (1 << lengthOf(word));
    }

    public int countFrom(int len, int bits) {
        if (!isValid(len, bits)) {
            return BAD_ARG;
        }
        int word = (1 << len) + bits;
        int sum = 0;
        // The words that begin with a word and have `more` letters after it stand side by side.
        for (int more = 0; more <= maxLength - len; more++) {
            sum += countChosen(word << more, (word + 1) << more);
        }
        return sum;
    }

    public int groups(int len) {
        if (!isLength(len)) {
            return BAD_ARG;
        }
        int found = 0;
        for (int word = 1 << len; word < 2 << len; word++) {
            if (isFirstOfItsGroup(word, len)) {
                found++;
            }
        }
        return found;
    }

    /** Where the top expression's language begins in the stack; there must be one. */
    private int topStart() {
        return (onStack - 1) * CELLS;
    }

    /** Pushes the language without words; the stack must have room. */
    private void pushNoWord() {
        lettersOf[onStack] = 0;
        onStack++;
        int top = topStart();
        // What was taken off left its cells behind.
        for (int word = EMPTY_WORD; word < 2 << maxLength; word++) {
            stack[top + word] = false;
        }
    }

    private void addEmptyWordToTop() {
        stack[topStart() + EMPTY_WORD] = true;
    }

    /** Takes the top off once its words have gone into the language below it. */
    private void mergeTopIntoLower() {
        onStack--;
        lettersOf[onStack - 1] += lettersOf[onStack];
    }

    /** Puts in place of the top language that of one or more of its words one after another. */
    private void repeatTop() {
        int top = topStart();
        // Shortest first: both parts of a word are shorter, so they are already words of the result,
        // and two such words one after the other are again one.
        for (int len = 2; len <= maxLength; len++) {
            for (int word = 1 << len; word < 2 << len; word++) {
                stack[top + word] = stack[top + word] || isSplit(top, top, word, 1, len - 1);
            }
        }
    }

    /**
     * Whether the word is a word of the language at left followed by one of the language at right,
     * where the second has a length from shortest to longest.
     */
    private boolean isSplit(int left, int right, int word, int shortest, int longest) {
        for (int len = shortest; len <= longest; len++) {
            int head = word >> len;
            int tail = (1 << len) + (word & ((1 << len) - 1));
            if (stack[left + head] && stack[right + tail]) {
                return true;
            }
        }
        return false;
    }

    private static int mirror(int word, int len) {
        int mirrored = EMPTY_WORD;
        for (int place = 0; place < len; place++) {
            mirrored = (mirrored << 1) + ((word >> place) & 1);
        }
        return mirrored;
    }

    private boolean isLength(int len) {
        return len >= 0 && len <= maxLength;
    }

    private boolean isValid(int len, int bits) {
        return isLength(len) && bits >= 0 && bits < 1 << len;
    }

    private boolean isPicked(int word) {
        int index = 0;
        for (int slot = 0; slot < SLOT_COUNT; slot++) {
            if (slots[slot * CELLS + word]) {
                index += 1 << slot;
            }
        }
        return ((chosenTable >> index) & 1) == 1;
    }

    /** How many words are chosen of those from first on and before end. */
    private int countChosen(int first, int end) {
        int found = 0;
        for (int word = first; word < end; word++) {
            if (isPicked(word)) {
                found++;
            }
        }
        return found;
    }

    /** The chosen word that has exactly k chosen words before it, or NO_WORD. */
    private int findChosen(int k) {
        int before = 0;
        for (int word = EMPTY_WORD; word < 2 << maxLength; word++) {
            if (isPicked(word)) {
                if (before == k) {
                    return word;
                }
                before++;
            }
        }
        return NO_WORD;
    }

    private static int lengthOf(int word) {
        int len = 0;
        for (int longer = 1; longer <= GREATEST_LENGTH; longer++) {
            if (word >= 1 << longer) {
                len = longer;
            }
        }
        return len;
    }

    private boolean isFirstOfItsGroup(int word, int len) {
        for (int earlier = 1 << len; earlier < word; earlier++) {
            if (areAlike(earlier, word, maxLength - len)) {
                return false;
            }
        }
        return true;
    }

    /** Whether no ending of at most room letters is chosen after one of the words alone. */
    private boolean areAlike(int one, int other, int room) {
        for (int more = 0; more <= room; more++) {
            for (int ending = 0; ending < 1 << more; ending++) {
                if (isPicked((one << more) + ending) != isPicked((other << more) + ending)) {
                    return false;
                }
            }
        }
        return true;
    }
}

/**
 * Promises 2 to 11 and the term "expressions": every word of many expressions, compared with what the
 * expression means for words of any length, so that words longer than N must not be missed on the way.
 */
public final class MeaningTest {
    private static final Check check = new Check();
    private static final int EXPRESSIONS = 400;
    private static final int[] TABLE_OF_SLOT = {170, 204, 240};

    public static void main(String[] args) {
        for (int n = 1; n <= 7; n++) {
            int maxLen = n;
            check.part("N " + n, () -> fixedExpressions(maxLen));
        }
        check.part("words longer than N", MeaningTest::longerWords);
        check.end();
    }

    private static void fixedExpressions(int n) {
        for (int i = 0; i < EXPRESSIONS; i++) {
            String postfix = new Sequence(i).expression(1 + i % 12);
            compare(n, postfix, i % 3);
        }
    }

    /** Expressions whose words are all longer than N, and what the operations make of them. */
    private static void longerWords() {
        for (int n = 1; n <= 7; n++) {
            for (String longer : new String[] {"e" + "1.".repeat(n + 1), "1" + "2.".repeat(n)}) {
                for (String after : new String[] {"", "r", "*", "+", "?", "0|", "n.", "e.", "r*0|"}) {
                    compare(n, longer + after, 0);
                }
            }
        }
    }

    private static void compare(int n, String postfix, int slot) {
        Situation stored = new Situation(n, postfix + "ABC".charAt(slot), TABLE_OF_SLOT[slot]);
        check.same(stored.toString(), Build.chosen(stored.made(), n), meant(n, postfix));
    }

    private static String meant(int n, String postfix) {
        Meaning meaning = Meaning.of(postfix);
        StringBuilder words = new StringBuilder();
        for (int len = 0; len <= n; len++) {
            for (String word : Model.allOf(len)) {
                if (meaning.has(word)) {
                    words.append(words.length() == 0 ? "" : " ").append(word.isEmpty() ? "e" : word);
                }
            }
        }
        return words.toString();
    }
}

import java.util.ArrayDeque;
import java.util.ArrayList;
import java.util.Deque;
import java.util.HashSet;
import java.util.List;
import java.util.Set;
import java.util.TreeSet;
import java.util.function.Predicate;

/** The document said again over sets of texts, to be compared with the program. */
final class Model {
    private record Expression(Set<String> words, int letters) {
    }

    final int maxLen;
    private final Deque<Expression> stack = new ArrayDeque<>();
    private final List<Set<String>> slots = new ArrayList<>(List.of(Set.of(), Set.of(), Set.of()));
    private final List<String> chosen = new ArrayList<>();
    private int table = 170;

    Model(int maxLen) {
        this.maxLen = Math.max(1, Math.min(7, maxLen));
    }

    int letter(int c) {
        if (c < 0 || c > 2) {
            return -1;
        }
        if (stack.size() == 8 || letters() == 12) {
            return -2;
        }
        return push(c == 2 ? Set.of("0", "1") : Set.of("" + c), 1);
    }

    int pushPlain(boolean unit) {
        if (stack.size() == 8) {
            return -2;
        }
        return push(unit ? Set.of("") : Set.of(), 0);
    }

    int cat() {
        if (stack.size() < 2) {
            return -3;
        }
        Expression y = stack.pop();
        Expression x = stack.pop();
        return push(joined(x.words, y.words), x.letters + y.letters);
    }

    int alt() {
        if (stack.size() < 2) {
            return -3;
        }
        Expression y = stack.pop();
        Expression x = stack.pop();
        return push(union(x.words, y.words), x.letters + y.letters);
    }

    /** Star, plus, opt and reverse, by the sign of the expression texts. */
    int change(char sign) {
        if (stack.isEmpty()) {
            return -3;
        }
        Expression x = stack.pop();
        return push(changed(x.words, sign), x.letters);
    }

    int store(int slot) {
        if (slot < 0 || slot > 2) {
            return -1;
        }
        if (stack.isEmpty()) {
            return -3;
        }
        slots.set(slot, stack.pop().words);
        listChosen();
        return stack.size();
    }

    void discard() {
        stack.clear();
    }

    int depth() {
        return stack.size();
    }

    int letters() {
        return stack.stream().mapToInt(Expression::letters).sum();
    }

    int choose(int newTable) {
        if (newTable < 0 || newTable > 255) {
            return -1;
        }
        int before = table;
        table = newTable;
        listChosen();
        return before;
    }

    int count(int len) {
        return isLength(len) ? number(word -> word.length() == len) : -1;
    }

    int total() {
        return chosen.size();
    }

    int isChosen(int len, int bits) {
        return isValid(len, bits) ? number(word(len, bits)::equals) : -1;
    }

    int rank(int len, int bits) {
        return isValid(len, bits) ? number(word -> comesBefore(word, word(len, bits))) : -1;
    }

    int wordLen(int k) {
        return k >= 0 && k < total() ? chosen.get(k).length() : -1;
    }

    int wordBits(int k) {
        return k >= 0 && k < total() ? Integer.parseInt("0" + chosen.get(k), 2) : -1;
    }

    int countFrom(int len, int bits) {
        return isValid(len, bits) ? number(word -> word.startsWith(word(len, bits))) : -1;
    }

    /** The groups are told apart by the endings that are chosen after a word. */
    int groups(int len) {
        if (!isLength(len)) {
            return -1;
        }
        Set<Set<String>> seen = new HashSet<>();
        for (String word : allOf(len)) {
            Set<String> endings = new HashSet<>();
            for (String whole : chosen) {
                if (whole.startsWith(word)) {
                    endings.add(whole.substring(len));
                }
            }
            seen.add(endings);
        }
        return seen.size();
    }

    /** All words of one length, those with the smaller bits first. */
    static Set<String> allOf(int len) {
        Set<String> words = new TreeSet<>(Set.of(""));
        for (int i = 0; i < len; i++) {
            Set<String> longer = new TreeSet<>();
            for (String word : words) {
                longer.add(word + "0");
                longer.add(word + "1");
            }
            words = longer;
        }
        return words;
    }

    /** Lists the chosen words in the order, after a slot or the table has changed. */
    private void listChosen() {
        chosen.clear();
        for (int len = 0; len <= maxLen; len++) {
            for (String word : allOf(len)) {
                if (isPicked(word)) {
                    chosen.add(word);
                }
            }
        }
    }

    private boolean isPicked(String word) {
        int index = 0;
        for (int slot = 0; slot < 3; slot++) {
            index += slots.get(slot).contains(word) ? (int) Math.pow(2, slot) : 0;
        }
        return table / (int) Math.pow(2, index) % 2 == 1;
    }

    private int number(Predicate<String> kind) {
        return (int) chosen.stream().filter(kind).count();
    }

    private boolean isLength(int len) {
        return len >= 0 && len <= maxLen;
    }

    private boolean isValid(int len, int bits) {
        return isLength(len) && bits >= 0 && bits < Math.pow(2, len);
    }

    private static String word(int len, int bits) {
        return len == 0 ? "" : Build.text(len, bits);
    }

    private static boolean comesBefore(String one, String other) {
        return one.length() < other.length()
            || one.length() == other.length() && one.compareTo(other) < 0;
    }

    private int push(Set<String> words, int letters) {
        stack.push(new Expression(words, letters));
        return stack.size();
    }

    private Set<String> changed(Set<String> words, char sign) {
        switch (sign) {
            case '*': return repeated(words);
            case '+': return joined(words, repeated(words));
            case '?': return union(words, Set.of(""));
            default: return turned(words);
        }
    }

    private Set<String> repeated(Set<String> words) {
        Set<String> all = Set.of("");
        for (int times = 1; times <= maxLen; times++) {
            all = union(all, joined(words, all));
        }
        return all;
    }

    private static Set<String> turned(Set<String> words) {
        Set<String> all = new HashSet<>();
        for (String word : words) {
            all.add(new StringBuilder(word).reverse().toString());
        }
        return all;
    }

    private static Set<String> union(Set<String> some, Set<String> more) {
        Set<String> all = new HashSet<>(some);
        all.addAll(more);
        return all;
    }

    private Set<String> joined(Set<String> heads, Set<String> tails) {
        Set<String> all = new HashSet<>();
        for (String head : heads) {
            for (String tail : tails) {
                if (head.length() + tail.length() <= maxLen) {
                    all.add(head + tail);
                }
            }
        }
        return all;
    }
}

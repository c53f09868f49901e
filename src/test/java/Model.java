import java.util.ArrayDeque;
import java.util.ArrayList;
import java.util.Deque;
import java.util.HashSet;
import java.util.List;
import java.util.Set;
import java.util.TreeSet;

/** The document said again over sets of texts, to be compared with the program. */
final class Model {
    private record Expression(Set<String> words, int letters) {
    }

    final int maxLen;
    private final Deque<Expression> stack = new ArrayDeque<>();
    private final List<Set<String>> slots = new ArrayList<>(List.of(Set.of(), Set.of(), Set.of()));
    private int table = 170;

    Model(int maxLen) {
        this.maxLen = Math.max(1, Math.min(7, maxLen));
    }

    int letter(int c) {
        if (c < 0 || c > 2) {
            return -1;
        }
        if (stack.size() == 8 || letters() == 12) {
            return -2;
        }
        return push(c == 2 ? Set.of("0", "1") : Set.of("" + c), 1);
    }

    int pushPlain(boolean unit) {
        if (stack.size() == 8) {
            return -2;
        }
        return push(unit ? Set.of("") : Set.of(), 0);
    }

    int cat() {
        if (stack.size() < 2) {
            return -3;
        }
        Expression y = stack.pop();
        Expression x = stack.pop();
        return push(joined(x.words, y.words), x.letters + y.letters);
    }

    int alt() {
        if (stack.size() < 2) {
            return -3;
        }
        Expression y = stack.pop();
        Expression x = stack.pop();
        return push(union(x.words, y.words), x.letters + y.letters);
    }

    /** Star, plus, opt and reverse, by the sign of the expression texts. */
    int change(char sign) {
        if (stack.isEmpty()) {
            return -3;
        }
        Expression x = stack.pop();
        return push(changed(x.words, sign), x.letters);
    }

    int store(int slot) {
        if (slot < 0 || slot > 2) {
            return -1;
        }
        if (stack.isEmpty()) {
            return -3;
        }
        slots.set(slot, stack.pop().words);
        return stack.size();
    }

    void discard() {
        stack.clear();
    }

    int depth() {
        return stack.size();
    }

    int letters() {
        return stack.stream().mapToInt(Expression::letters).sum();
    }

    int choose(int newTable) {
        if (newTable < 0 || newTable > 255) {
            return -1;
        }
        int before = table;
        table = newTable;
        return before;
    }

    /** The chosen words in the order. */
    List<String> chosen() {
        List<String> words = new ArrayList<>();
        for (int len = 0; len <= maxLen; len++) {
            for (String word : allOf(len)) {
                if (isChosen(word)) {
                    words.add(word);
                }
            }
        }
        return words;
    }

    boolean isChosen(String word) {
        int index = 0;
        for (int slot = 0; slot < 3; slot++) {
            index += slots.get(slot).contains(word) ? (int) Math.pow(2, slot) : 0;
        }
        return table / (int) Math.pow(2, index) % 2 == 1;
    }

    /** The groups are told apart by the endings that are chosen after a word. */
    int groups(int len) {
        Set<Set<String>> seen = new HashSet<>();
        List<String> chosen = chosen();
        for (String word : allOf(len)) {
            Set<String> endings = new HashSet<>();
            for (String whole : chosen) {
                if (whole.startsWith(word)) {
                    endings.add(whole.substring(len));
                }
            }
            seen.add(endings);
        }
        return seen.size();
    }

    /** All words of one length, those with the smaller bits first. */
    static Set<String> allOf(int len) {
        Set<String> words = new TreeSet<>(Set.of(""));
        for (int i = 0; i < len; i++) {
            Set<String> longer = new TreeSet<>();
            for (String word : words) {
                longer.add(word + "0");
                longer.add(word + "1");
            }
            words = longer;
        }
        return words;
    }

    private int push(Set<String> words, int letters) {
        stack.push(new Expression(words, letters));
        return stack.size();
    }

    private Set<String> changed(Set<String> words, char sign) {
        switch (sign) {
            case '*': return repeated(words);
            case '+': return joined(words, repeated(words));
            case '?': return union(words, Set.of(""));
            default: return turned(words);
        }
    }

    private Set<String> repeated(Set<String> words) {
        Set<String> all = Set.of("");
        for (int times = 1; times <= maxLen; times++) {
            all = union(all, joined(words, all));
        }
        return all;
    }

    private static Set<String> turned(Set<String> words) {
        Set<String> all = new HashSet<>();
        for (String word : words) {
            all.add(new StringBuilder(word).reverse().toString());
        }
        return all;
    }

    private static Set<String> union(Set<String> some, Set<String> more) {
        Set<String> all = new HashSet<>(some);
        all.addAll(more);
        return all;
    }

    private Set<String> joined(Set<String> heads, Set<String> tails) {
        Set<String> all = new HashSet<>();
        for (String head : heads) {
            for (String tail : tails) {
                if (head.length() + tail.length() <= maxLen) {
                    all.add(head + tail);
                }
            }
        }
        return all;
    }
}

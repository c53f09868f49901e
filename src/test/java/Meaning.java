import java.util.ArrayDeque;
import java.util.Deque;
import java.util.HashMap;
import java.util.Map;
import java.util.Set;
import java.util.function.Predicate;

/**
 * A language in the document's own terms: which words, of any length, are in it. Unlike the program
 * and Model it lists no words and has no greatest length.
 */
final class Meaning {
    private final Map<String, Boolean> known = new HashMap<>();
    private final Predicate<String> rule;

    private Meaning(Predicate<String> rule) {
        this.rule = rule;
    }

    /** What the postfix signs of Build stand for; the text must make one expression. */
    static Meaning of(String postfix) {
        Deque<Meaning> stack = new ArrayDeque<>();
        for (char sign : postfix.toCharArray()) {
            if (".|".indexOf(sign) >= 0) {
                Meaning y = stack.pop();
                Meaning x = stack.pop();
                stack.push(sign == '.' ? x.then(y) : new Meaning(word -> x.has(word) || y.has(word)));
            } else {
                stack.push("*+?r".indexOf(sign) >= 0 ? stack.pop().changed(sign) : plain(sign));
            }
        }
        if (stack.size() != 1) {
            throw new IllegalArgumentException("not one expression: " + postfix);
        }
        return stack.pop();
    }

    boolean has(String word) {
        Boolean answer = known.get(word);
        if (answer == null) {
            answer = rule.test(word);
            known.put(word, answer);
        }
        return answer;
    }

    private static Meaning plain(char sign) {
        switch (sign) {
            case 'n': return new Meaning(word -> false);
            case 'e': return new Meaning(String::isEmpty);
            case '2': return new Meaning(Set.of("0", "1")::contains);
            default: return new Meaning(("" + sign)::equals);
        }
    }

    private Meaning changed(char sign) {
        switch (sign) {
            case '*': return repeated();
            case '+': return then(repeated());
            case '?': return new Meaning(word -> word.isEmpty() || has(word));
            default: return new Meaning(word -> has(new StringBuilder(word).reverse().toString()));
        }
    }

    private Meaning then(Meaning second) {
        return new Meaning(word -> isCut(word, 0, second));
    }

    /** Empty parts add nothing to a word, so each part but none may be taken to have a letter. */
    private Meaning repeated() {
        Meaning[] itself = new Meaning[1];
        itself[0] = new Meaning(word -> word.isEmpty() || isCut(word, 1, itself[0]));
        return itself[0];
    }

    private boolean isCut(String word, int shortest, Meaning second) {
        for (int cut = shortest; cut <= word.length(); cut++) {
            if (has(word.substring(0, cut)) && second.has(word.substring(cut))) {
                return true;
            }
        }
        return false;
    }
}

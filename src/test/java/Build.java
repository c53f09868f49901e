/** Makes expressions from a text in postfix order and lists the chosen words. */
final class Build {
    private Build() {
    }

    /** The answer of the last call; each sign of the text but a blank is one call. */
    static int run(WordRanker x, String postfix) {
        int answer = 0;
        for (char sign : postfix.replace(" ", "").toCharArray()) {
            answer = call(x, sign);
        }
        return answer;
    }

    private static int call(WordRanker x, char sign) {
        switch (sign) {
            case '0': return x.letter(0);
            case '1': return x.letter(1);
            case '2': return x.letter(2);
            case 'e': return x.unit();
            case 'n': return x.none();
            case '.': return x.cat();
            case '|': return x.alt();
            case '*': return x.star();
            case '+': return x.plus();
            case '?': return x.opt();
            case 'r': return x.reverse();
            case 'A': return x.store(0);
            case 'B': return x.store(1);
            case 'C': return x.store(2);
            default: throw new IllegalArgumentException("no such sign: " + sign);
        }
    }

    static WordRanker made(int maxLen, String postfix) {
        WordRanker x = new WordRanker(maxLen);
        run(x, postfix);
        return x;
    }

    /** The chosen words of a length up to maxLen in the order, with a blank between; e is the empty one. */
    static String chosen(WordRanker x, int maxLen) {
        StringBuilder words = new StringBuilder();
        for (int len = 0; len <= maxLen; len++) {
            for (int bits = 0; bits < 1 << len; bits++) {
                if (x.isChosen(len, bits) == 1) {
                    words.append(words.length() == 0 ? "" : " ").append(text(len, bits));
                }
            }
        }
        return words.toString();
    }

    static String text(int len, int bits) {
        StringBuilder letters = new StringBuilder(len == 0 ? "e" : "");
        for (int place = len - 1; place >= 0; place--) {
            letters.append((bits >> place) & 1);
        }
        return letters.toString();
    }
}

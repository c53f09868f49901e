import java.util.List;

/** All promises: many long runs of calls, the same on every machine, compared with the model. */
public final class ModelTest {
    private static final int RUNS = 1500;
    // The document promises 512 calls, and one question below may take three of them.
    private static final int MOST_CALLS = 510;
    private static final int[] ODD_NUMBERS = {
        Integer.MIN_VALUE, -256, -32, -8, -2, -1, 8, 9, 31, 32, 33, 255, 256, 300, Integer.MAX_VALUE
    };
    private static final Check check = new Check();

    private final WordRanker x;
    private final Model model;
    private final String name;
    private long state;
    private int calls = 0;

    private ModelTest(int run) {
        state = run * 7919L + 1;
        next(2);
        int maxLen = run % 11 - 1;
        x = new WordRanker(maxLen);
        model = new Model(maxLen);
        name = "run " + run + " (maxLen " + maxLen + ")";
    }

    public static void main(String[] args) {
        for (int run = 0; run < RUNS; run++) {
            new ModelTest(run).go(run);
        }
        check.end();
    }

    private void go(int run) {
        // Some runs ask much about few expressions, some build much before they ask.
        int building = 10 + run % 7 * 40;
        int pushing = 3 + run % 5;
        while (calls < building) {
            build(pushing);
        }
        while (calls < MOST_CALLS) {
            if (next(20) == 0) {
                build(pushing);
            } else {
                ask();
            }
        }
    }

    /** A number from 0 to below the bound, from a fixed sequence. */
    private int next(int bound) {
        state = state * 6364136223846793005L + 1442695040888963407L;
        return (int) ((state >>> 33) % bound);
    }

    /** Mostly a number from 0 to the greatest, sometimes one that is out of range. */
    private int argument(int greatest) {
        return next(12) == 0 ? ODD_NUMBERS[next(ODD_NUMBERS.length)] : next(greatest + 2);
    }

    private void due(String call, int got, int want) {
        calls++;
        check.due(name + " call " + calls + " " + call, got, want);
    }

    private void build(int pushing) {
        if (next(10) < pushing) {
            pushOne();
        } else if (next(4) == 0) {
            takeOne();
        } else {
            changeTop();
        }
    }

    private void pushOne() {
        int kind = next(10);
        int c = argument(2);
        if (kind == 0) {
            due("unit", x.unit(), model.pushPlain(true));
        } else if (kind == 1) {
            due("none", x.none(), model.pushPlain(false));
        } else {
            due("letter " + c, x.letter(c), model.letter(c));
        }
    }

    private void takeOne() {
        if (next(12) == 0) {
            calls++;
            x.discard();
            model.discard();
        } else {
            int slot = argument(2);
            due("store " + slot, x.store(slot), model.store(slot));
        }
    }

    private void changeTop() {
        switch (next(8)) {
            case 0: due("star", x.star(), model.change('*')); break;
            case 1: due("plus", x.plus(), model.change('+')); break;
            case 2: due("opt", x.opt(), model.change('?')); break;
            case 3: due("reverse", x.reverse(), model.change('r')); break;
            case 4: due("alt", x.alt(), model.alt()); break;
            default: due("cat", x.cat(), model.cat()); break;
        }
    }

    private void ask() {
        List<String> chosen = model.chosen();
        switch (next(9)) {
            case 0: askOfState(); break;
            case 1: askOfTable(); break;
            case 2: case 3: askOfLength(chosen, argument(model.maxLen)); break;
            case 4: case 5: askOfPlace(chosen, argument(chosen.size())); break;
            default:
                int len = argument(model.maxLen);
                askOfWord(chosen, len, argument(len < 0 || len > 7 ? 127 : 1 << len));
                break;
        }
    }

    private void askOfState() {
        due("depth", x.depth(), model.depth());
        due("letters", x.letters(), model.letters());
    }

    private void askOfTable() {
        int table = argument(255);
        due("choose " + table, x.choose(table), model.choose(table));
    }

    private void askOfLength(List<String> chosen, int len) {
        boolean fits = len >= 0 && len <= model.maxLen;
        int count = (int) chosen.stream().filter(word -> word.length() == len).count();
        due("total", x.total(), chosen.size());
        due("count " + len, x.count(len), fits ? count : -1);
        due("groups " + len, x.groups(len), fits ? model.groups(len) : -1);
    }

    private void askOfPlace(List<String> chosen, int k) {
        String word = k >= 0 && k < chosen.size() ? chosen.get(k) : null;
        due("wordLen " + k, x.wordLen(k), word == null ? -1 : word.length());
        due("wordBits " + k, x.wordBits(k), word == null ? -1 : Integer.parseInt("0" + word, 2));
    }

    private void askOfWord(List<String> chosen, int len, int bits) {
        boolean valid = len >= 0 && len <= model.maxLen && bits >= 0 && bits < Math.pow(2, len);
        String call = " (" + len + ", " + bits + ")";
        if (!valid) {
            due("isChosen" + call, x.isChosen(len, bits), -1);
            due("rank" + call, x.rank(len, bits), -1);
            due("countFrom" + call, x.countFrom(len, bits), -1);
            return;
        }
        String word = len == 0 ? "" : Build.text(len, bits);
        due("isChosen" + call, x.isChosen(len, bits), chosen.contains(word) ? 1 : 0);
        due("rank" + call, x.rank(len, bits), (int) chosen.stream().filter(w -> comesBefore(w, word)).count());
        due("countFrom" + call, x.countFrom(len, bits),
            (int) chosen.stream().filter(w -> w.startsWith(word)).count());
    }

    private static boolean comesBefore(String one, String other) {
        return one.length() < other.length()
            || one.length() == other.length() && one.compareTo(other) < 0;
    }
}

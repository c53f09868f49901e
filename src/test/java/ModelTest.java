import java.util.ArrayList;
import java.util.List;
import java.util.Set;
import java.util.TreeSet;

/** All promises: runs of 512 calls on one object, the same on every machine, compared with the model. */
public final class ModelTest {
    private static final int CALLS = 512;
    private static final int RUNS_OF_ONE = 140;
    private static final int[] MAX_LENS = {Integer.MIN_VALUE, 0, 1, 2, 3, 4, 5, 6, 7, 8, Integer.MAX_VALUE};
    private static final int[] ODD_NUMBERS = {
        Integer.MIN_VALUE, -256, -32, -8, -2, -1, 8, 9, 31, 32, 33, 255, 256, 300, Integer.MAX_VALUE
    };
    /** Each kind of call with the refusals that the document names for it; "taken" stands for none. */
    private static final String[] KINDS = {
        "letter taken -1 -2", "unit taken -2", "none taken -2", "cat taken -3", "alt taken -3",
        "star taken -3", "plus taken -3", "opt taken -3", "reverse taken -3", "store taken -1 -3",
        "discard taken", "depth taken", "letters taken", "choose taken -1", "count taken -1", "total taken",
        "isChosen taken -1", "rank taken -1", "wordLen taken -1", "wordBits taken -1", "countFrom taken -1",
        "groups taken -1"
    };
    private static final Check check = new Check();
    /** What the runs came across: the length N, the kind of call, and how it was answered. */
    private static final Set<String> met = new TreeSet<>();

    private final WordRanker x;
    private final Model model;
    private final Sequence fixed;
    private final String name;
    // Wild runs build call by call, which seldom gives rich languages; the others build whole expressions.
    private final boolean wild;
    // Some wild runs ask much about few expressions, some build much before they ask.
    private final int building;
    private final int pushing;
    private String planned = "";
    private int calls = 0;

    private ModelTest(int run, int maxLen) {
        x = new WordRanker(maxLen);
        model = new Model(maxLen);
        name = "run " + run + " (maxLen " + maxLen + ") call ";
        wild = run % 3 == 0;
        building = 10 + run % 7 * 80;
        pushing = 3 + run % 5;
        fixed = new Sequence(run);
    }

    public static void main(String[] args) {
        for (int round = 0; round < RUNS_OF_ONE; round++) {
            int number = round;
            check.part("round " + round, () -> runSideBySide(number));
        }
        check.part("the runs", ModelTest::everyKindOfCallWasMet);
        check.end();
    }

    /** One object of each maxLen, called in turns: they must not touch each other. */
    private static void runSideBySide(int round) {
        List<ModelTest> runs = new ArrayList<>();
        for (int i = 0; i < MAX_LENS.length; i++) {
            runs.add(new ModelTest(round * MAX_LENS.length + i, MAX_LENS[i]));
        }
        for (int call = 1; call <= CALLS; call++) {
            runs.forEach(ModelTest::callOnce);
        }
        for (ModelTest run : runs) {
            check.due(run.name + "number", run.calls, CALLS);
        }
    }

    private static void everyKindOfCallWasMet() {
        for (int n = 1; n <= 7; n++) {
            for (String kind : KINDS) {
                String[] parts = kind.split(" ");
                for (int i = 1; i < parts.length; i++) {
                    String wanted = n + " " + parts[0] + " " + parts[i];
                    check.holds(wanted + " was met", met.contains(wanted));
                }
            }
        }
    }

    private void callOnce() {
        if (!wild && planned.isEmpty() && (calls == 0 || fixed.number(25) == 0)) {
            plan();
        }
        if (!planned.isEmpty()) {
            char sign = planned.charAt(0);
            planned = planned.substring(1);
            callSign(sign);
        } else if (wild && calls < building || fixed.number(wild ? 15 : 60) == 0) {
            build();
        } else {
            ask();
        }
    }

    /** One to three expressions, each stored; on a stack that is in use some of it may be refused. */
    private void plan() {
        for (int slots = 1 + fixed.number(3); slots > 0; slots--) {
            planned += fixed.expression(1 + fixed.number(12)) + fixed.sign("ABC");
        }
    }

    /** Mostly a number from 0 to the greatest, sometimes one that is out of range. */
    private int argument(int greatest) {
        boolean odd = fixed.number(12) == 0;
        return odd ? ODD_NUMBERS[fixed.number(ODD_NUMBERS.length)] : fixed.number(greatest + 2);
    }

    private void due(Call call, int want) {
        calls++;
        check.due(name + calls + " " + call.name(), call.on(x), want);
        String kind = call.name().substring(0, call.name().indexOf('('));
        met.add(model.maxLen + " " + kind + " " + (want < 0 ? want : "taken"));
    }

    private void build() {
        if (fixed.number(10) < pushing) {
            pushOne();
        } else if (fixed.number(4) == 0) {
            takeOff();
        } else {
            callSign(fixed.sign("*+?r|..."));
        }
    }

    private void pushOne() {
        if (fixed.number(5) == 0) {
            callSign(fixed.sign("en"));
        } else {
            int c = argument(2);
            due(Call.letter(c), model.letter(c));
        }
    }

    private void takeOff() {
        if (fixed.number(12) == 0) {
            model.discard();
            due(Call.DISCARD, 0);
        } else {
            int slot = argument(2);
            due(Call.store(slot), model.store(slot));
        }
    }

    private void callSign(char sign) {
        switch (sign) {
            case '0': case '1': case '2': due(Call.letter(sign - '0'), model.letter(sign - '0')); break;
            case 'e': due(Call.UNIT, model.pushPlain(true)); break;
            case 'n': due(Call.NONE, model.pushPlain(false)); break;
            case '.': due(Call.CAT, model.cat()); break;
            case '|': due(Call.ALT, model.alt()); break;
            case '*': due(Call.STAR, model.change('*')); break;
            case '+': due(Call.PLUS, model.change('+')); break;
            case '?': due(Call.OPT, model.change('?')); break;
            case 'r': due(Call.REVERSE, model.change('r')); break;
            default: due(Call.store(sign - 'A'), model.store(sign - 'A')); break;
        }
    }

    private void ask() {
        switch (fixed.number(10)) {
            case 0: askOfTheWhole(); break;
            case 1: case 2: askOfLength(argument(model.maxLen)); break;
            case 3: case 4: case 5: askOfPlace(argument(model.total())); break;
            case 6:
                int table = argument(255);
                due(Call.choose(table), model.choose(table));
                break;
            default:
                int len = argument(model.maxLen);
                askOfWord(len, argument(len < 0 || len > 7 ? 127 : 1 << len));
                break;
        }
    }

    private void askOfTheWhole() {
        switch (fixed.number(3)) {
            case 0: due(Call.DEPTH, model.depth()); break;
            case 1: due(Call.LETTERS, model.letters()); break;
            default: due(Call.TOTAL, model.total()); break;
        }
    }

    private void askOfLength(int len) {
        switch (fixed.number(2)) {
            case 0: due(Call.count(len), model.count(len)); break;
            default: due(Call.groups(len), model.groups(len)); break;
        }
    }

    private void askOfPlace(int k) {
        switch (fixed.number(2)) {
            case 0: due(Call.wordLen(k), model.wordLen(k)); break;
            default: due(Call.wordBits(k), model.wordBits(k)); break;
        }
    }

    private void askOfWord(int len, int bits) {
        switch (fixed.number(3)) {
            case 0: due(Call.isChosen(len, bits), model.isChosen(len, bits)); break;
            case 1: due(Call.rank(len, bits), model.rank(len, bits)); break;
            default: due(Call.countFrom(len, bits), model.countFrom(len, bits)); break;
        }
    }
}

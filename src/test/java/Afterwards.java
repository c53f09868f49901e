import java.util.ArrayList;
import java.util.List;
import java.util.function.Supplier;

/**
 * What an object answers from now on: every question, the content of each slot and of each place of
 * the stack, the table, and what each call that works on the stack leads to. Two objects with the
 * same list can not be told apart by it. The object is made anew for each run of calls, since an
 * object is good for 512 calls and since the calls change it.
 */
final class Afterwards {
    private static final int[] TABLE_OF_SLOT = {170, 204, 240};
    private static final int MOST_LEN = 7;
    private static final int MOST_WORDS = 255;

    private final Supplier<WordRanker> maker;
    private final List<String> answers = new ArrayList<>();
    private WordRanker x;

    private Afterwards(Supplier<WordRanker> maker) {
        this.maker = maker;
    }

    static List<String> of(Supplier<WordRanker> maker) {
        Afterwards all = new Afterwards(maker);
        all.questions();
        all.slots();
        all.places();
        all.pushes();
        all.work();
        return all.answers;
    }

    /** The first answer in which the two lists differ, or "none". */
    static String difference(List<String> some, List<String> others) {
        for (int i = 0; i < Math.min(some.size(), others.size()); i++) {
            if (!some.get(i).equals(others.get(i))) {
                return some.get(i) + " in place of " + others.get(i);
            }
        }
        return some.size() == others.size() ? "none" : some.size() + " in place of " + others.size();
    }

    private void anew() {
        x = maker.get();
        answers.add("anew");
    }

    private void ask(Call call) {
        answers.add(call.name() + " = " + call.on(x));
    }

    private interface OfWord {
        Call at(int len, int bits);
    }

    private void questions() {
        anew();
        ask(Call.DEPTH);
        ask(Call.LETTERS);
        ask(Call.TOTAL);
        for (int len = -1; len <= MOST_LEN + 1; len++) {
            ask(Call.count(len));
            ask(Call.groups(len));
        }
        ask(Call.choose(0));
        for (OfWord kind : List.<OfWord>of(Call::isChosen, Call::rank, Call::countFrom)) {
            anew();
            askOfWords(kind);
        }
        anew();
        for (int k = -1; k <= MOST_WORDS; k++) {
            ask(Call.wordLen(k));
        }
        anew();
        for (int k = -1; k <= MOST_WORDS; k++) {
            ask(Call.wordBits(k));
        }
    }

    private void askOfWords(OfWord kind) {
        for (int len = 0; len <= MOST_LEN; len++) {
            for (int bits = 0; bits < 1 << len; bits++) {
                ask(kind.at(len, bits));
            }
        }
    }

    private void slots() {
        for (int slot = 0; slot < 3; slot++) {
            anew();
            askOfSlot(slot);
        }
    }

    private void askOfSlot(int slot) {
        x.choose(TABLE_OF_SLOT[slot]);
        askOfWords(Call::isChosen);
    }

    private void places() {
        int depth = maker.get().depth();
        for (int place = 1; place <= depth; place++) {
            anew();
            for (int i = 0; i < place; i++) {
                ask(Call.store(place % 3));
                ask(Call.LETTERS);
            }
            askOfSlot(place % 3);
        }
    }

    private void pushes() {
        for (Call push : List.of(Call.letter(0), Call.letter(1), Call.letter(2), Call.UNIT, Call.NONE)) {
            anew();
            for (int i = 0; i < 13; i++) {
                ask(push);
                ask(Call.LETTERS);
            }
            ask(Call.store(1));
            askOfSlot(1);
        }
    }

    private void work() {
        for (Call work : List.of(Call.CAT, Call.ALT, Call.STAR, Call.PLUS, Call.OPT, Call.REVERSE,
                Call.DISCARD)) {
            anew();
            for (int i = 0; i < 9; i++) {
                ask(work);
                ask(Call.DEPTH);
                ask(Call.LETTERS);
            }
            ask(Call.store(2));
            askOfSlot(2);
        }
    }
}

/** Promises 2 to 14: what the stack's calls answer, where they refuse, and what they count. */
public final class StackTest {
    private static final Check check = new Check();

    public static void main(String[] args) {
        pushesAnswerTheDepth();
        wrongLettersComeFirst();
        stackOfEightIsFull();
        twelveLettersAreFull();
        tooFewOnTheStack();
        answersOfWorkOnTheTop();
        lettersAreCounted();
        storeRefuses();
        storeReplaces();
        discardKeepsSlotsAndTable();
        refusedCallsChangeNothing();
        lastPlaceAndLongestWords();
        check.end();
    }

    private static void pushesAnswerTheDepth() {
        WordRanker x = new WordRanker(3);
        String pushes = "012enen2";
        for (int i = 0; i < pushes.length(); i++) {
            check.due("push " + i, Build.run(x, pushes.substring(i, i + 1)), i + 1);
            check.due("depth after push " + i, x.depth(), i + 1);
        }
    }

    private static void wrongLettersComeFirst() {
        WordRanker roomy = new WordRanker(3);
        WordRanker full = Build.made(3, "eeeeeeee");
        WordRanker lettered = Build.made(3, "00000000|||||||0000");
        check.due("letters of the lettered one", lettered.letters(), 12);
        for (int c : new int[] {Integer.MIN_VALUE, -1, 3, 4, Integer.MAX_VALUE}) {
            check.due("letter(" + c + ") with room", roomy.letter(c), WordRanker.BAD_ARG);
            check.due("letter(" + c + ") on eight", full.letter(c), WordRanker.BAD_ARG);
            check.due("letter(" + c + ") on twelve", lettered.letter(c), WordRanker.BAD_ARG);
        }
        check.due("depth stays", roomy.depth(), 0);
    }

    private static void stackOfEightIsFull() {
        WordRanker x = Build.made(3, "enenene");
        check.due("the eighth", x.letter(2), 8);
        for (char push : "012en".toCharArray()) {
            check.due("push " + push + " on eight", Build.run(x, "" + push), WordRanker.FULL);
        }
        check.due("depth", x.depth(), 8);
        check.due("letters", x.letters(), 1);
        check.due("after cat there is room", Build.run(x, "."), 7);
        check.due("and then none again", Build.run(x, "ee"), WordRanker.FULL);
    }

    private static void twelveLettersAreFull() {
        WordRanker x = Build.made(7, "0");
        for (int i = 2; i <= 12; i++) {
            check.due("letter " + i, x.letter(i % 3), 2);
            check.due("alt " + i, x.alt(), 1);
            check.due("letters after " + i, x.letters(), i);
        }
        for (int c = 0; c <= 2; c++) {
            check.due("letter(" + c + ") on twelve", x.letter(c), WordRanker.FULL);
        }
        check.due("letters stay", x.letters(), 12);
        check.due("depth stays", x.depth(), 1);
        check.due("unit counts none", x.unit(), 2);
        check.due("none counts none", x.none(), 3);
        check.due("letters still", x.letters(), 12);
        x.discard();
        check.due("room after discard", x.letter(1), 1);
    }

    private static void tooFewOnTheStack() {
        WordRanker empty = new WordRanker(3);
        for (char work : ".|*+?rABC".toCharArray()) {
            check.due(work + " on none", Build.run(empty, "" + work), WordRanker.TOO_FEW);
        }
        check.due("depth of the empty stack", empty.depth(), 0);
        WordRanker single = Build.made(3, "0");
        check.due("cat on one", single.cat(), WordRanker.TOO_FEW);
        check.due("alt on one", single.alt(), WordRanker.TOO_FEW);
        check.due("depth", single.depth(), 1);
        check.due("letters", single.letters(), 1);
    }

    private static void answersOfWorkOnTheTop() {
        WordRanker x = Build.made(3, "01201");
        check.due("star", x.star(), 5);
        check.due("plus", x.plus(), 5);
        check.due("opt", x.opt(), 5);
        check.due("reverse", x.reverse(), 5);
        check.due("cat", x.cat(), 4);
        check.due("alt", x.alt(), 3);
        check.due("store", x.store(2), 2);
        check.due("store", x.store(0), 1);
        check.due("store", x.store(1), 0);
        check.due("depth", x.depth(), 0);
    }

    private static void lettersAreCounted() {
        WordRanker x = Build.made(3, "0e1n2");
        check.due("pushed", x.letters(), 3);
        Build.run(x, "*+?r");
        check.due("star, plus, opt and reverse keep it", x.letters(), 3);
        Build.run(x, "0.");
        check.due("cat sums", x.letters(), 4);
        Build.run(x, "1|");
        check.due("alt sums", x.letters(), 5);
        x.store(0);
        check.due("store takes the top's off", x.letters(), 2);
        x.store(0);
        check.due("nothing to take off for none", x.letters(), 2);
        Build.run(x, "nn.");
        check.due("a push onto an old place starts at zero", x.letters(), 2);
        Build.run(x, "...");
        check.due("all in one", x.letters(), 2);
        x.discard();
        check.due("discard takes all off", x.letters(), 0);
    }

    private static void storeRefuses() {
        WordRanker empty = new WordRanker(3);
        WordRanker single = Build.made(3, "0");
        for (int slot : new int[] {Integer.MIN_VALUE, -1, 3, 4, Integer.MAX_VALUE}) {
            check.due("store(" + slot + ") on none", empty.store(slot), WordRanker.BAD_ARG);
            check.due("store(" + slot + ") on one", single.store(slot), WordRanker.BAD_ARG);
        }
        check.due("depth", single.depth(), 1);
        check.due("letters", single.letters(), 1);
    }

    private static void storeReplaces() {
        for (int slot = 0; slot < 3; slot++) {
            WordRanker x = Build.made(3, "11.0");
            // These tables pick the words of slot 0, of slot 1, of slot 2.
            x.choose(new int[] {170, 204, 240}[slot]);
            x.store(slot);
            check.same("slot " + slot, Build.chosen(x, 3), "0");
            x.store(slot);
            check.same("slot " + slot + " anew", Build.chosen(x, 3), "11");
            x.store(slot);
            check.same("slot " + slot + " after a refusal", Build.chosen(x, 3), "11");
            x.choose(new int[] {85, 51, 15}[slot]);
            check.due("others of slot " + slot, x.total(), 14);
            x.choose(1);
            check.due("other slots stay empty beside " + slot, x.total(), 14);
        }
    }

    private static void discardKeepsSlotsAndTable() {
        WordRanker x = Build.made(2, "1B0A01");
        x.choose(6);
        x.discard();
        check.due("depth", x.depth(), 0);
        check.due("letters", x.letters(), 0);
        check.same("chosen", Build.chosen(x, 2), "0 1");
        check.due("table", x.choose(0), 6);
        x.discard();
        check.due("depth of nothing discarded", x.depth(), 0);
        check.due("what was there does not come back", Build.run(x, "nA"), 0);
        x.choose(170);
        check.due("none after discard is empty", x.total(), 0);
    }

    private static void refusedCallsChangeNothing() {
        WordRanker x = Build.made(2, "0A1.B2C1nnnnnn0");
        x.letter(0);
        x.letter(3);
        x.unit();
        x.none();
        x.store(3);
        x.choose(256);
        x.count(3);
        x.rank(2, 4);
        check.due("depth", x.depth(), 8);
        check.due("letters", x.letters(), 2);
        check.due("table", x.choose(170), 170);
        check.same("slot 0", Build.chosen(x, 2), "0");
        Build.run(x, "A");
        check.same("top", Build.chosen(x, 2), "0");
        Build.run(x, "AAAAAA.|");
        check.same("none", Build.chosen(x, 2), "");
        Build.run(x, "A");
        check.same("bottom", Build.chosen(x, 2), "1");
    }

    /** Eight expressions and words of length seven, where a step too far would leave the arrays. */
    private static void lastPlaceAndLongestWords() {
        WordRanker x = Build.made(7, "nnnnnnn2");
        check.due("plus", x.plus(), 8);
        check.due("star", x.star(), 8);
        check.due("reverse", x.reverse(), 8);
        check.due("alt", x.alt(), 7);
        check.due("unit", x.unit(), 8);
        check.due("cat", x.cat(), 7);
        check.due("store", x.store(2), 6);
        x.choose(240);
        check.due("all words are in slot 2", x.total(), 255);
    }
}

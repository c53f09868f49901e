/** Boundary cases of promise 1 and of the section "Terms", each as a case of its own. */
public final class EdgeNewObjectTest {
    private static final Check check = new Check();
    private static final Edge edge = new Edge(check);
    private static final int BAD_ARG = WordRanker.BAD_ARG;
    private static final int TOO_FEW = WordRanker.TOO_FEW;
    private static final int[] TABLE_OF_SLOT = {170, 204, 240};
    private static final int[] EXTREMES = {Edge.MIN, -1, 0, 1, 2, 3, 7, 8, 31, 32, 255, 256, Edge.MAX};

    public static void main(String[] args) {
        check.part("promise 1, maxLen below 1", EdgeNewObjectTest::maxLenTooSmall);
        check.part("promise 1, maxLen above 7", EdgeNewObjectTest::maxLenTooLarge);
        check.part("promise 1, maxLen 1 to 7", EdgeNewObjectTest::maxLenInRange);
        check.part("promise 1, the stack is empty", EdgeNewObjectTest::stackIsEmpty);
        check.part("promise 1, every slot is empty", EdgeNewObjectTest::slotsAreEmpty);
        check.part("promise 1, the table is 170", EdgeNewObjectTest::tableIsThatOfSlot0);
        check.part("terms, valid lengths", EdgeNewObjectTest::validLengths);
        check.part("terms, valid bits", EdgeNewObjectTest::validBits);
        check.part("terms, length 0 has bits 0 only", EdgeNewObjectTest::emptyWordHasOneForm);
        check.part("terms, order", EdgeNewObjectTest::orderAtTheEndOfALength);
        check.part("terms, words longer than N", EdgeNewObjectTest::longerWordsAreNotLookedAt);
        check.part("terms, the table's digits", EdgeNewObjectTest::lowestAndHighestDigit);
        check.part("terms, no call throws", EdgeNewObjectTest::noCallThrows);
        check.part("512 calls", EdgeNewObjectTest::lastPromisedCall);
        check.end();
    }

    /** The object is like one that was made with N, in every answer. */
    private static void becomes(int maxLen, int n) {
        String postfix = Situation.SLOTS + "2*2.11.";
        Situation given = new Situation(maxLen, postfix, 105);
        Situation plain = new Situation(n, postfix, 105);
        String difference = Afterwards.difference(
            Afterwards.of(given::made), Afterwards.of(plain::made));
        check.same("maxLen " + maxLen + " unlike " + n, difference, "none");
        lengthsEndAt(maxLen, n);
    }

    private static void lengthsEndAt(int maxLen, int n) {
        Situation all = new Situation(maxLen, "", 255);
        edge.taken(all, Call.TOTAL, (2 << n) - 1);
        edge.taken(all, Call.count(n), 1 << n);
        edge.taken(all, Call.isChosen(n, (1 << n) - 1), 1);
        edge.refused(all, Call.count(n + 1), BAD_ARG);
        edge.refused(all, Call.isChosen(n + 1, 0), BAD_ARG);
    }

    private static void maxLenTooSmall() {
        for (int maxLen : new int[] {Edge.MIN, Edge.MIN + 1, Edge.MIN + 7, -256, -7, -1, 0}) {
            becomes(maxLen, 1);
        }
    }

    private static void maxLenTooLarge() {
        for (int maxLen : new int[] {8, 9, 15, 31, 32, 33, 255, 256, 257, Edge.MAX - 1, Edge.MAX}) {
            becomes(maxLen, 7);
        }
    }

    private static void maxLenInRange() {
        for (int maxLen = 1; maxLen <= 7; maxLen++) {
            lengthsEndAt(maxLen, maxLen);
        }
    }

    private static void stackIsEmpty() {
        for (int maxLen : new int[] {Edge.MIN, 1, 7, Edge.MAX}) {
            Situation fresh = Situation.fresh(maxLen);
            edge.taken(fresh, Call.DEPTH, 0);
            edge.taken(fresh, Call.LETTERS, 0);
            edge.refused(fresh, Call.store(0), TOO_FEW);
            edge.refused(fresh, Call.STAR, TOO_FEW);
            edge.refused(fresh, Call.CAT, TOO_FEW);
            edge.taken(fresh, Call.letter(0), 1);
        }
    }

    private static void slotsAreEmpty() {
        for (int maxLen = 1; maxLen <= 7; maxLen++) {
            for (int table : TABLE_OF_SLOT) {
                Situation slot = new Situation(maxLen, "", table);
                edge.taken(slot, Call.TOTAL, 0);
                edge.taken(slot, Call.isChosen(0, 0), 0);
            }
            // Table 1 picks the words that are in no slot, table 254 those that are in one or more.
            edge.taken(new Situation(maxLen, "", 1), Call.TOTAL, (2 << maxLen) - 1);
            edge.taken(new Situation(maxLen, "", 254), Call.TOTAL, 0);
        }
    }

    private static void tableIsThatOfSlot0() {
        check.due("the first choose", new WordRanker(3).choose(0), 170);
        WordRanker x = Build.made(2, "2*B2*C");
        check.same("slots 1 and 2 filled", Build.chosen(x, 2), "");
        Build.run(x, "1?A");
        check.same("slot 0 filled too", Build.chosen(x, 2), "e 1");
        Build.run(x, "nBnC");
        check.same("slots 1 and 2 empty again", Build.chosen(x, 2), "e 1");
    }

    private static void validLengths() {
        for (int n = 1; n <= 7; n++) {
            Situation all = new Situation(n, "", 255);
            edge.taken(all, Call.isChosen(0, 0), 1);
            edge.taken(all, Call.isChosen(n, 0), 1);
            for (int len : new int[] {Edge.MIN, -1, n + 1, 31, 32, 32 + n, 64, Edge.MAX}) {
                edge.refused(all, Call.isChosen(len, 0), BAD_ARG);
            }
        }
    }

    private static void validBits() {
        for (int len = 0; len <= 7; len++) {
            Situation all = new Situation(7, "", 255);
            edge.taken(all, Call.isChosen(len, 0), 1);
            edge.taken(all, Call.isChosen(len, (1 << len) - 1), 1);
            for (int bits : new int[] {Edge.MIN, -1, 1 << len, (1 << len) + 1, 256, Edge.MAX}) {
                edge.refused(all, Call.isChosen(len, bits), BAD_ARG);
            }
        }
    }

    private static void emptyWordHasOneForm() {
        for (int n : new int[] {1, 7}) {
            Situation empty = new Situation(n, "eA", 170);
            edge.taken(empty, Call.isChosen(0, 0), 1);
            edge.taken(empty, Call.rank(0, 0), 0);
            edge.taken(empty, Call.countFrom(0, 0), 1);
            edge.refused(empty, Call.isChosen(0, 1), BAD_ARG);
            edge.refused(empty, Call.isChosen(0, -1), BAD_ARG);
            edge.refused(empty, Call.rank(0, 1), BAD_ARG);
            edge.refused(empty, Call.countFrom(0, 1), BAD_ARG);
        }
    }

    /** The last word of a length comes just before the first one of the next length. */
    private static void orderAtTheEndOfALength() {
        for (int len = 0; len < 7; len++) {
            Situation all = new Situation(7, "", 255);
            int words = (2 << len) - 1;
            edge.taken(all, Call.rank(len, (1 << len) - 1), words - 1);
            edge.taken(all, Call.rank(len + 1, 0), words);
            edge.taken(all, Call.wordLen(words - 1), len);
            edge.taken(all, Call.wordBits(words - 1), (1 << len) - 1);
            edge.taken(all, Call.wordLen(words), len + 1);
            edge.taken(all, Call.wordBits(words), 0);
        }
    }

    private static void longerWordsAreNotLookedAt() {
        for (int n = 1; n <= 7; n++) {
            String longest = "e" + "1.".repeat(n);
            edge.taken(new Situation(n, longest + "A", 170), Call.TOTAL, 1);
            edge.taken(new Situation(n, longest + "A", 170), Call.count(n), 1);
            edge.taken(new Situation(n, longest + "1.A", 170), Call.TOTAL, 0);
            edge.taken(new Situation(n, longest + "1.A", 85), Call.TOTAL, (2 << n) - 1);
        }
    }

    private static void lowestAndHighestDigit() {
        // The word 1 is in all slots, the word 0 in none.
        String postfix = "1A 1B 1C";
        edge.taken(new Situation(1, postfix, 128), Call.TOTAL, 1);
        edge.taken(new Situation(1, postfix, 128), Call.isChosen(1, 1), 1);
        edge.taken(new Situation(1, postfix, 127), Call.isChosen(1, 1), 0);
        edge.taken(new Situation(1, postfix, 1), Call.isChosen(1, 0), 1);
        edge.taken(new Situation(1, postfix, 254), Call.isChosen(1, 0), 0);
        edge.taken(new Situation(1, postfix, 254), Call.TOTAL, 1);
    }

    private static void noCallThrows() {
        for (int maxLen : new int[] {Edge.MIN, 1, 7, Edge.MAX}) {
            for (String postfix : new String[] {"", "0", "2*2+", "2*2*2*2*2*2*2*", "2*2*2*2*2*2*2*2*"}) {
                Situation at = new Situation(maxLen, postfix, 255);
                for (int number : EXTREMES) {
                    extremes(at.made(), number);
                }
            }
        }
    }

    private static void extremes(WordRanker x, int number) {
        Call[] calls = {
            Call.letter(number), Call.choose(number), Call.count(number), Call.groups(number),
            Call.wordLen(number), Call.wordBits(number), Call.UNIT, Call.REVERSE, Call.CAT, Call.NONE,
            Call.PLUS, Call.ALT, Call.STAR, Call.OPT, Call.store(number), Call.DEPTH, Call.LETTERS,
            Call.TOTAL
        };
        for (Call call : calls) {
            int answer = call.on(x);
            check.holds(call.name() + " is a code or a number", answer >= -3 && answer <= 255);
        }
        for (int other : EXTREMES) {
            for (Call call : new Call[] {
                    Call.isChosen(number, other), Call.rank(number, other), Call.countFrom(number, other)}) {
                int answer = call.on(x);
                check.holds(call.name() + " is BAD_ARG or a number", answer >= -1 && answer <= 255);
            }
        }
        x.discard();
        check.due("depth after discard", x.depth(), 0);
    }

    /** One kind of call 512 times: the last one is still as promised. */
    private static void lastPromisedCall() {
        WordRanker pushed = new WordRanker(7);
        WordRanker stored = new WordRanker(7);
        WordRanker chosen = new WordRanker(7);
        for (int call = 1; call <= 512; call++) {
            check.due("letter, call " + call, pushed.letter(2), call <= 8 ? call : WordRanker.FULL);
            int answer = call % 2 == 1 ? stored.letter(call % 3) : stored.store(call % 3);
            check.due("letter or store, call " + call, answer, call % 2);
            check.due("choose, call " + call, chosen.choose(call % 256), call == 1 ? 170 : (call - 1) % 256);
        }
    }
}

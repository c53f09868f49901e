/** Boundary cases of promises 2 to 14, each as a case of its own. */
public final class EdgeStackTest {
    private static final Check check = new Check();
    private static final Edge edge = new Edge(check);
    private static final int BAD_ARG = WordRanker.BAD_ARG;
    private static final int FULL = WordRanker.FULL;
    private static final int TOO_FEW = WordRanker.TOO_FEW;
    private static final int[] BELOW_0 = {Edge.MIN, Edge.MIN + 1, -256, -3, -2, -1};
    private static final int[] ABOVE_2 = {3, 4, 7, 8, 256, 258, Edge.MAX - 1, Edge.MAX};
    private static final Call[] ON_ONE = {Call.STAR, Call.PLUS, Call.OPT, Call.REVERSE};
    private static final Call[] ON_TWO = {Call.CAT, Call.ALT};
    private static final Call[] PLAIN_PUSHES = {Call.UNIT, Call.NONE};
    private static final Situation BOTH_LIMITS = Situation.atBothLimits(3, 105);

    public static void main(String[] args) {
        check.part("promise 2, c below 0", () -> wrongLetters(BELOW_0));
        check.part("promise 2, c above 2", () -> wrongLetters(ABOVE_2));
        check.part("promise 2, c 0 to 2", EdgeStackTest::rightLetters);
        check.part("promise 2, eight expressions", EdgeStackTest::letterOnEight);
        check.part("promise 2, twelve letters", EdgeStackTest::letterOnTwelve);
        check.part("promise 2, BAD_ARG before FULL", EdgeStackTest::letterBadBeforeFull);
        check.part("promise 2, both limits", EdgeStackTest::letterOnBothLimits);
        check.part("promise 2, room again", EdgeStackTest::letterHasRoomAgain);
        check.part("promise 3, eight expressions", () -> plainPushOnEight(Call.UNIT));
        check.part("promise 4, eight expressions", () -> plainPushOnEight(Call.NONE));
        check.part("promises 3 and 4, twelve letters", EdgeStackTest::plainPushOnTwelve);
        check.part("promises 3 and 4, the language", EdgeStackTest::plainLanguages);
        check.part("promise 5, fewer than two", () -> tooFewForTwo(Call.CAT));
        check.part("promise 6, fewer than two", () -> tooFewForTwo(Call.ALT));
        check.part("promise 5, empty words and languages", EdgeStackTest::catAtTheEdges);
        check.part("promise 5, words as long as N", EdgeStackTest::catToTheGreatestLength);
        check.part("promise 6, empty words and languages", EdgeStackTest::altAtTheEdges);
        for (Call call : ON_ONE) {
            check.part("promises 7 to 10, empty stack, " + call.name(), () -> tooFewForOne(call));
        }
        check.part("promise 7, the empty word", EdgeStackTest::starHasTheEmptyWord);
        check.part("promise 8, the empty word", EdgeStackTest::plusAddsNoEmptyWord);
        check.part("promises 7 and 8, words as long as N", EdgeStackTest::repeatToTheGreatestLength);
        check.part("promise 9, the empty word", EdgeStackTest::optAddsTheEmptyWord);
        check.part("promise 10, the first and last letter", EdgeStackTest::reverseAtTheEdges);
        check.part("promise 11, slot below 0", () -> wrongSlots(BELOW_0));
        check.part("promise 11, slot above 2", () -> wrongSlots(ABOVE_2));
        check.part("promise 11, slot 0 to 2", EdgeStackTest::rightSlots);
        check.part("promise 11, empty stack", EdgeStackTest::storeOnEmptyStack);
        check.part("promise 11, BAD_ARG before TOO_FEW", EdgeStackTest::storeBadBeforeTooFew);
        check.part("promise 11, what the slot held is gone", EdgeStackTest::storeReplaces);
        check.part("promise 12, the stack", EdgeStackTest::discardEmpties);
        check.part("promise 12, slots and table", EdgeStackTest::discardKeeps);
        check.part("promise 13, 0 to 8", EdgeStackTest::depthFrom0To8);
        check.part("promise 14, 0 to 12", EdgeStackTest::lettersFrom0To12);
        check.part("promise 14, sums", EdgeStackTest::lettersAreKeptAndSummed);
        check.part("promise 14, store and discard", EdgeStackTest::lettersTakenOff);
        check.end();
    }

    private static void wrongLetters(int[] numbers) {
        for (int c : numbers) {
            edge.refused(Situation.fresh(3), Call.letter(c), BAD_ARG);
            edge.refused(Situation.deep(0), Call.letter(c), BAD_ARG);
            edge.refused(Situation.deep(1), Call.letter(c), BAD_ARG);
            edge.refused(Situation.deep(7), Call.letter(c), BAD_ARG);
            edge.refused(Situation.lettered(11, 2), Call.letter(c), BAD_ARG);
        }
    }

    private static void rightLetters() {
        String[] words = {"0", "1", "0 1"};
        for (int c = 0; c <= 2; c++) {
            for (int n : new int[] {1, 7}) {
                edge.taken(Situation.fresh(n), Call.letter(c), 1);
                edge.top(Situation.fresh(n), Call.letter(c), words[c]);
            }
            edge.then(Situation.deep(3), Call.letter(c), Call.LETTERS, 4);
        }
    }

    private static void letterOnEight() {
        String[] words = {"0", "1", "0 1"};
        for (int c = 0; c <= 2; c++) {
            edge.taken(Situation.deep(6), Call.letter(c), 7);
            edge.taken(Situation.deep(7), Call.letter(c), 8);
            edge.top(Situation.deep(7), Call.letter(c), words[c]);
            edge.refused(Situation.deep(8), Call.letter(c), FULL);
            edge.refused(Situation.lettered(0, 8), Call.letter(c), FULL);
            edge.refused(Situation.lettered(11, 8), Call.letter(c), FULL);
        }
    }

    private static void letterOnTwelve() {
        for (int c = 0; c <= 2; c++) {
            for (int depth = 1; depth <= 7; depth++) {
                edge.taken(Situation.lettered(11, depth), Call.LETTERS, 11);
                edge.taken(Situation.lettered(11, depth), Call.letter(c), depth + 1);
                edge.then(Situation.lettered(11, depth), Call.letter(c), Call.LETTERS, 12);
                edge.then(Situation.lettered(11, depth), Call.letter(c), Call.letter(c), FULL);
                edge.taken(Situation.lettered(12, depth), Call.LETTERS, 12);
                edge.refused(Situation.lettered(12, depth), Call.letter(c), FULL);
            }
            // Here the twelve letters are spread over all expressions.
            Situation spread = new Situation(3, Situation.SLOTS + "01. 12. 20.* 11. 00| 1 2", 105);
            edge.taken(spread, Call.LETTERS, 12);
            edge.refused(spread, Call.letter(c), FULL);
        }
    }

    private static void letterBadBeforeFull() {
        for (int c : new int[] {Edge.MIN, -1, 3, Edge.MAX}) {
            edge.refused(Situation.deep(8), Call.letter(c), BAD_ARG);
            edge.refused(Situation.lettered(0, 8), Call.letter(c), BAD_ARG);
            edge.refused(Situation.lettered(12, 1), Call.letter(c), BAD_ARG);
            edge.refused(BOTH_LIMITS, Call.letter(c), BAD_ARG);
        }
    }

    private static void letterOnBothLimits() {
        edge.taken(BOTH_LIMITS, Call.DEPTH, 8);
        edge.taken(BOTH_LIMITS, Call.LETTERS, 12);
        for (int c = 0; c <= 2; c++) {
            edge.refused(BOTH_LIMITS, Call.letter(c), FULL);
        }
    }

    private static void letterHasRoomAgain() {
        edge.then(Situation.deep(8), Call.CAT, Call.letter(0), 8);
        edge.then(Situation.deep(8), Call.ALT, Call.letter(1), 8);
        edge.then(Situation.deep(8), Call.store(2), Call.letter(2), 8);
        edge.then(Situation.deep(8), Call.DISCARD, Call.letter(2), 1);
        edge.then(Situation.lettered(12, 1), Call.store(0), Call.letter(0), 1);
        edge.then(Situation.lettered(12, 4), Call.DISCARD, Call.letter(0), 1);
        // These make room among the expressions but not among the letters.
        edge.then(BOTH_LIMITS, Call.CAT, Call.letter(0), FULL);
        edge.then(BOTH_LIMITS, Call.ALT, Call.letter(0), FULL);
        edge.then(BOTH_LIMITS, Call.store(0), Call.letter(0), 8);
        edge.then(Situation.lettered(12, 3), Call.store(0), Call.letter(0), FULL);
        edge.then(Situation.lettered(12, 1), Call.STAR, Call.letter(0), FULL);
        edge.then(Situation.lettered(12, 1), Call.OPT, Call.letter(0), FULL);
    }

    private static void plainPushOnEight(Call push) {
        for (int depth = 0; depth <= 7; depth++) {
            edge.taken(Situation.deep(depth), push, depth + 1);
            edge.then(Situation.deep(depth), push, Call.DEPTH, depth + 1);
        }
        edge.refused(Situation.deep(8), push, FULL);
        edge.refused(Situation.lettered(0, 8), push, FULL);
        edge.refused(BOTH_LIMITS, push, FULL);
        edge.then(Situation.deep(8), Call.CAT, push, 8);
        edge.then(Situation.deep(8), Call.store(0), push, 8);
        edge.then(Situation.deep(8), Call.DISCARD, push, 1);
    }

    private static void plainPushOnTwelve() {
        for (Call push : PLAIN_PUSHES) {
            for (int depth = 1; depth <= 7; depth++) {
                edge.taken(Situation.lettered(12, depth), push, depth + 1);
                edge.then(Situation.lettered(12, depth), push, Call.LETTERS, 12);
            }
            edge.refused(Situation.lettered(12, 8), push, FULL);
        }
    }

    private static void plainLanguages() {
        for (int depth : new int[] {0, 1, 7}) {
            edge.top(Situation.deep(depth), Call.UNIT, "e");
            edge.top(Situation.deep(depth), Call.NONE, "");
        }
        // The place held all words before.
        Situation used = new Situation(2, "2*2*AB", 170);
        edge.top(used, Call.UNIT, "e");
        edge.top(used, Call.NONE, "");
    }

    private static void tooFewForTwo(Call call) {
        edge.refused(Situation.fresh(3), call, TOO_FEW);
        edge.refused(Situation.deep(0), call, TOO_FEW);
        edge.refused(Situation.deep(1), call, TOO_FEW);
        edge.refused(Situation.lettered(12, 1), call, TOO_FEW);
        for (String single : new String[] {"e", "n", "2*", "2*2*A", "01.", "01|"}) {
            edge.refused(new Situation(2, Situation.SLOTS + single, 105), call, TOO_FEW);
        }
        for (int depth = 2; depth <= 8; depth++) {
            edge.taken(Situation.deep(depth), call, depth - 1);
            edge.then(Situation.deep(depth), call, Call.DEPTH, depth - 1);
        }
        edge.taken(BOTH_LIMITS, call, 7);
        edge.then(Situation.deep(2), call, call, TOO_FEW);
        edge.then(Situation.deep(8), Call.DISCARD, call, TOO_FEW);
        edge.then(Situation.deep(2), Call.store(0), call, TOO_FEW);
    }

    private static void tops(int n, Call call, String[][] rows) {
        for (String[] row : rows) {
            edge.top(new Situation(n, row[0], 170), call, row[1]);
            // The same above as many other expressions as leave it room.
            edge.top(new Situation(n, "2*".repeat(8 - height(row[0])) + row[0], 170), call, row[1]);
        }
    }

    /** How many places of the stack a text takes at most. */
    private static int height(String postfix) {
        int now = 0;
        int most = 0;
        for (char sign : postfix.toCharArray()) {
            now += "012en".indexOf(sign) >= 0 ? 1 : ".|".indexOf(sign) >= 0 ? -1 : 0;
            most = Math.max(most, now);
        }
        return most;
    }

    private static void catAtTheEdges() {
        tops(2, Call.CAT, new String[][] {
            {"ee", "e"}, {"en", ""}, {"ne", ""}, {"nn", ""}, {"e0", "0"}, {"0e", "0"}, {"n0", ""},
            {"0n", ""}, {"01", "01"}, {"10", "10"}, {"e2*", "e 0 1 00 01 10 11"}, {"n2*", ""},
            {"2*n", ""}, {"0?1?", "e 0 1 01"}
        });
    }

    private static void catToTheGreatestLength() {
        for (int n = 1; n <= 7; n++) {
            String shorter = "0".repeat(n - 1);
            String almost = "e" + "0.".repeat(n - 1);
            edge.top(new Situation(n, almost + "1", 170), Call.CAT, shorter + "1");
            edge.top(new Situation(n, almost + "0.1", 170), Call.CAT, "");
            edge.top(new Situation(n, "1" + almost, 170), Call.CAT, "1" + shorter);
            edge.top(new Situation(n, "1" + almost + "0.", 170), Call.CAT, "");
        }
    }

    private static void altAtTheEdges() {
        tops(2, Call.ALT, new String[][] {
            {"ee", "e"}, {"en", "e"}, {"ne", "e"}, {"nn", ""}, {"e0", "e 0"}, {"0e", "e 0"}, {"n0", "0"},
            {"0n", "0"}, {"01", "0 1"}, {"00", "0"}, {"11.n", "11"}, {"n11.", "11"},
            {"11.00.", "00 11"}, {"n2*", "e 0 1 00 01 10 11"}
        });
        edge.top(new Situation(7, "eeeeeeee......." + "11.1.1.1.1.1.", 170), Call.ALT, "e 1111111");
    }

    private static void tooFewForOne(Call call) {
        edge.refused(Situation.fresh(3), call, TOO_FEW);
        edge.refused(Situation.deep(0), call, TOO_FEW);
        edge.refused(new Situation(7, "2*A2*B2*C", 255), call, TOO_FEW);
        for (int depth = 1; depth <= 8; depth++) {
            edge.taken(Situation.deep(depth), call, depth);
            edge.then(Situation.deep(depth), call, Call.DEPTH, depth);
        }
        edge.taken(Situation.lettered(12, 1), call, 1);
        edge.taken(BOTH_LIMITS, call, 8);
        edge.then(Situation.deep(1), Call.store(0), call, TOO_FEW);
        edge.then(Situation.deep(8), Call.DISCARD, call, TOO_FEW);
    }

    private static void starHasTheEmptyWord() {
        tops(2, Call.STAR, new String[][] {
            {"n", "e"}, {"e", "e"}, {"0", "e 0 00"}, {"1", "e 1 11"}, {"01.", "e 01"},
            {"2", "e 0 1 00 01 10 11"}, {"01.1.", "e"}, {"0?", "e 0 00"}, {"0+", "e 0 00"}
        });
    }

    private static void plusAddsNoEmptyWord() {
        tops(2, Call.PLUS, new String[][] {
            {"n", ""}, {"e", "e"}, {"0", "0 00"}, {"1", "1 11"}, {"01.", "01"},
            {"2", "0 1 00 01 10 11"}, {"01.1.", ""}, {"0?", "e 0 00"}, {"0*", "e 0 00"}
        });
    }

    private static void repeatToTheGreatestLength() {
        for (int n = 1; n <= 7; n++) {
            StringBuilder words = new StringBuilder();
            for (int len = 1; len <= n; len++) {
                words.append(" ").append("1".repeat(len));
            }
            edge.top(new Situation(n, "1", 170), Call.STAR, "e" + words);
            edge.top(new Situation(n, "1", 170), Call.PLUS, words.substring(1));
            // A word that alone is as long as N is there once, a longer one is not.
            edge.top(new Situation(n, "e" + "0.".repeat(n), 170), Call.PLUS, "0".repeat(n));
            edge.top(new Situation(n, "e" + "0.".repeat(n + 1), 170), Call.PLUS, "");
            edge.top(new Situation(n, "e" + "0.".repeat(n + 1), 170), Call.STAR, "e");
        }
        edge.top(new Situation(7, "00.000..|", 170), Call.PLUS, "00 000 0000 00000 000000 0000000");
    }

    private static void optAddsTheEmptyWord() {
        tops(2, Call.OPT, new String[][] {
            {"n", "e"}, {"e", "e"}, {"0", "e 0"}, {"0?", "e 0"}, {"0*", "e 0 00"}, {"11.", "e 11"},
            {"01.1.", "e"}
        });
    }

    private static void reverseAtTheEdges() {
        tops(3, Call.REVERSE, new String[][] {
            {"n", ""}, {"e", "e"}, {"0", "0"}, {"1", "1"}, {"01.", "10"}, {"10.", "01"}, {"00.", "00"},
            {"2", "0 1"}, {"01.10.|", "01 10"}, {"01.1.", "110"}, {"01.0.", "010"},
            {"02*.", "0 00 10 000 010 100 110"}, {"e01.|", "e 10"}
        });
        for (int n = 2; n <= 7; n++) {
            String zeros = "0".repeat(n - 1);
            edge.top(new Situation(n, "e" + "0.".repeat(n - 1) + "1.", 170), Call.REVERSE, "1" + zeros);
            edge.top(new Situation(n, "1" + "0.".repeat(n - 1), 170), Call.REVERSE, zeros + "1");
        }
    }

    private static void wrongSlots(int[] numbers) {
        for (int slot : numbers) {
            edge.refused(Situation.deep(1), Call.store(slot), BAD_ARG);
            edge.refused(Situation.deep(8), Call.store(slot), BAD_ARG);
            edge.refused(Situation.lettered(12, 1), Call.store(slot), BAD_ARG);
            edge.refused(BOTH_LIMITS, Call.store(slot), BAD_ARG);
        }
    }

    private static void rightSlots() {
        for (int slot = 0; slot <= 2; slot++) {
            for (int depth = 1; depth <= 8; depth++) {
                edge.taken(Situation.deep(depth), Call.store(slot), depth - 1);
                edge.then(Situation.deep(depth), Call.store(slot), Call.DEPTH, depth - 1);
            }
            edge.taken(BOTH_LIMITS, Call.store(slot), 7);
            edge.then(Situation.deep(1), Call.store(slot), Call.store(slot), TOO_FEW);
        }
    }

    private static void storeOnEmptyStack() {
        for (int slot = 0; slot <= 2; slot++) {
            edge.refused(Situation.fresh(3), Call.store(slot), TOO_FEW);
            edge.refused(Situation.deep(0), Call.store(slot), TOO_FEW);
            edge.refused(new Situation(7, "2*A2*B2*C", 128), Call.store(slot), TOO_FEW);
            edge.then(Situation.deep(8), Call.DISCARD, Call.store(slot), TOO_FEW);
        }
    }

    private static void storeBadBeforeTooFew() {
        for (int slot : new int[] {Edge.MIN, -1, 3, Edge.MAX}) {
            edge.refused(Situation.fresh(3), Call.store(slot), BAD_ARG);
            edge.refused(Situation.deep(0), Call.store(slot), BAD_ARG);
        }
    }

    private static void storeReplaces() {
        int[] tableOfSlot = {170, 204, 240};
        String[] before = {"e 01", "0 1", "e 1"};
        for (int slot = 0; slot <= 2; slot++) {
            for (String[] row : new String[][] {{"n", ""}, {"e", "e"}, {"0", "0"}, {"11.", "11"}}) {
                WordRanker x = Build.made(2, Situation.SLOTS + row[0]);
                x.store(slot);
                for (int other = 0; other <= 2; other++) {
                    x.choose(tableOfSlot[other]);
                    String want = other == slot ? row[1] : before[other];
                    check.same(row[0] + " into slot " + slot + ", slot " + other, Build.chosen(x, 2), want);
                }
            }
        }
        // What is done on the stack after that does not reach the slot.
        WordRanker x = Build.made(2, "0A 2* 2* .");
        check.same("slot 0 after later work", Build.chosen(x, 2), "0");
    }

    private static void discardEmpties() {
        for (int depth = 0; depth <= 8; depth++) {
            edge.then(Situation.deep(depth), Call.DISCARD, Call.DEPTH, 0);
            edge.then(Situation.deep(depth), Call.DISCARD, Call.LETTERS, 0);
            edge.then(Situation.deep(depth), Call.DISCARD, Call.STAR, TOO_FEW);
            edge.then(Situation.deep(depth), Call.DISCARD, Call.letter(2), 1);
        }
        edge.then(BOTH_LIMITS, Call.DISCARD, Call.LETTERS, 0);
        WordRanker x = BOTH_LIMITS.made();
        x.discard();
        for (int push = 1; push <= 8; push++) {
            check.due("push " + push + " after discard", x.letter(0), push);
            check.due("letters after push " + push, x.letters(), push);
        }
    }

    /** Discard on a full stack leaves the object as if the stack had never been used. */
    private static void discardKeeps() {
        for (int depth : new int[] {0, 1, 2, 8}) {
            String difference = Afterwards.difference(
                Afterwards.of(() -> {
                    WordRanker x = Situation.deep(depth).made();
                    x.discard();
                    return x;
                }),
                Afterwards.of(() -> Situation.deep(0).made()));
            check.same("difference after discard of " + depth, difference, "none");
        }
    }

    private static void depthFrom0To8() {
        for (int depth = 0; depth <= 8; depth++) {
            edge.taken(Situation.deep(depth), Call.DEPTH, depth);
        }
        for (Call push : new Call[] {Call.letter(2), Call.UNIT, Call.NONE}) {
            WordRanker x = new WordRanker(1);
            for (int call = 1; call <= 20; call++) {
                push.on(x);
                check.due(push.name() + " call " + call + " depth", x.depth(), Math.min(call, 8));
            }
            for (int call = 1; call <= 20; call++) {
                x.store(call % 3);
                check.due(push.name() + " store " + call + " depth", x.depth(), Math.max(8 - call, 0));
            }
        }
    }

    private static void lettersFrom0To12() {
        for (int letters = 0; letters <= 12; letters++) {
            edge.taken(Situation.lettered(letters, 1), Call.LETTERS, letters);
            edge.taken(Situation.lettered(letters, 8), Call.LETTERS, letters);
        }
        for (int c = 0; c <= 2; c++) {
            WordRanker x = new WordRanker(7);
            for (int call = 1; call <= 20; call++) {
                x.letter(c);
                check.due("letter(" + c + ") call " + call + " letters", x.letters(), Math.min(call, 12));
                x.cat();
            }
        }
    }

    private static void lettersAreKeptAndSummed() {
        for (Call push : PLAIN_PUSHES) {
            edge.then(Situation.deep(0), push, Call.LETTERS, 0);
            edge.then(Situation.lettered(5, 3), push, Call.LETTERS, 5);
        }
        for (Call call : ON_TWO) {
            edge.then(Situation.lettered(12, 2), call, Call.LETTERS, 12);
            edge.then(BOTH_LIMITS, call, Call.LETTERS, 12);
            // A language without words still counts the letters that went into it.
            edge.then(new Situation(3, "000..n", 170), call, Call.LETTERS, 3);
            edge.then(new Situation(1, "000..11.", 170), call, Call.LETTERS, 5);
            WordRanker x = Build.made(3, "01.2 2 ");
            call.on(x);
            x.store(0);
            check.due("letters below the sum of " + call.name(), x.letters(), 2);
        }
        for (Call call : ON_ONE) {
            edge.then(Situation.lettered(0, 1), call, Call.LETTERS, 0);
            edge.then(Situation.lettered(12, 1), call, Call.LETTERS, 12);
            edge.then(BOTH_LIMITS, call, Call.LETTERS, 12);
        }
    }

    private static void lettersTakenOff() {
        for (int slot = 0; slot <= 2; slot++) {
            edge.then(Situation.lettered(12, 1), Call.store(slot), Call.LETTERS, 0);
            edge.then(Situation.lettered(12, 2), Call.store(slot), Call.LETTERS, 12);
            edge.then(new Situation(3, "0 1 2 000..", 170), Call.store(slot), Call.LETTERS, 3);
            edge.then(BOTH_LIMITS, Call.store(slot), Call.LETTERS, 11);
        }
        edge.then(Situation.lettered(12, 1), Call.DISCARD, Call.LETTERS, 0);
        edge.then(BOTH_LIMITS, Call.DISCARD, Call.LETTERS, 0);
        WordRanker x = BOTH_LIMITS.made();
        int[] left = {11, 10, 9, 8, 6, 4, 2, 0};
        for (int letters : left) {
            x.store(1);
            check.due("letters after store", x.letters(), letters);
        }
        // A push onto a place that held letters before counts its own only.
        check.due("unit onto the old place", x.unit(), 1);
        check.due("its letters", x.letters(), 0);
        check.due("letter onto the old place", x.letter(2), 2);
        check.due("letters of both", x.letters(), 1);
    }
}

/** Boundary cases of promises 15 to 23, each as a case of its own. */
public final class EdgeQuestionTest {
    private static final Check check = new Check();
    private static final Edge edge = new Edge(check);
    private static final int BAD_ARG = WordRanker.BAD_ARG;
    /** Stores the language of 01 and 011. */
    private static final String FEW_WORDS = "01.1?.A";

    public static void main(String[] args) {
        check.part("promise 15, table below 0", EdgeQuestionTest::tableTooSmall);
        check.part("promise 15, table above 255", EdgeQuestionTest::tableTooLarge);
        check.part("promise 15, table 0 to 255", EdgeQuestionTest::tableInRange);
        check.part("promise 15, the table before", EdgeQuestionTest::tableBefore);
        check.part("promise 16, len not 0 to N", () -> wrongLengths(Call::count));
        check.part("promise 16, len 0 and N", EdgeQuestionTest::countAtBothEnds);
        check.part("promise 17, none and all", EdgeQuestionTest::totalOfNoneAndAll);
        check.part("promise 18, not valid", () -> wrongWords(Call::isChosen));
        check.part("promise 18, first and last word", EdgeQuestionTest::isChosenAtBothEnds);
        check.part("promise 19, not valid", () -> wrongWords(Call::rank));
        check.part("promise 19, chosen itself or not", EdgeQuestionTest::rankLeavesItselfOut);
        check.part("promise 19, first and last word", EdgeQuestionTest::rankAtBothEnds);
        check.part("promise 20, k below 0", () -> placeTooSmall(Call::wordLen));
        check.part("promise 20, k from total() on", () -> placeTooLarge(Call::wordLen));
        check.part("promise 21, k below 0", () -> placeTooSmall(Call::wordBits));
        check.part("promise 21, k from total() on", () -> placeTooLarge(Call::wordBits));
        check.part("promises 20 and 21, first and last word", EdgeQuestionTest::firstAndLastPlace);
        check.part("promises 20 and 21, total() of the moment", EdgeQuestionTest::placesOfTheMoment);
        check.part("promise 22, not valid", () -> wrongWords(Call::countFrom));
        check.part("promise 22, the word itself", EdgeQuestionTest::countFromCountsItself);
        check.part("promise 22, len 0 and N", EdgeQuestionTest::countFromAtBothEnds);
        check.part("promise 23, len not 0 to N", () -> wrongLengths(Call::groups));
        check.part("promise 23, one group", EdgeQuestionTest::leastGroups);
        check.part("promise 23, 2 to the power len groups", EdgeQuestionTest::mostGroups);
        check.part("promise 23, endings as long as N - len", EdgeQuestionTest::longestEndings);
        check.part("promises 13, 14 and 16 to 23, nothing changes", EdgeQuestionTest::questionsChangeNothing);
        check.end();
    }

    private interface OfNumber {
        Call at(int number);
    }

    private interface OfWord {
        Call at(int len, int bits);
    }

    private static void tableTooSmall() {
        for (int table : new int[] {Edge.MIN, Edge.MIN + 1, Edge.MIN + 170, -256, -86, -2, -1}) {
            wrongTable(table);
        }
    }

    private static void tableTooLarge() {
        for (int table : new int[] {256, 257, 426, 511, 512, 65536, Edge.MAX - 1, Edge.MAX}) {
            wrongTable(table);
        }
    }

    private static void wrongTable(int table) {
        edge.refused(Situation.fresh(3), Call.choose(table), BAD_ARG);
        edge.refused(Situation.deep(4), Call.choose(table), BAD_ARG);
        edge.refused(Situation.atBothLimits(3, 105), Call.choose(table), BAD_ARG);
        edge.refused(new Situation(3, Situation.SLOTS, 0), Call.choose(table), BAD_ARG);
        edge.refused(new Situation(3, Situation.SLOTS, 255), Call.choose(table), BAD_ARG);
        edge.then(Situation.fresh(3), Call.choose(table), Call.choose(0), 170);
    }

    private static void tableInRange() {
        for (int table = 0; table <= 255; table++) {
            edge.taken(Situation.fresh(3), Call.choose(table), 170);
            edge.then(Situation.fresh(3), Call.choose(table), Call.choose(7), table);
            // In a new object every word has index 0.
            edge.then(Situation.fresh(3), Call.choose(table), Call.TOTAL, table % 2 == 1 ? 15 : 0);
            // Here the word 1 has index 7 and every other word index 0.
            Situation all = new Situation(3, "1A1B1C", 0);
            edge.then(all, Call.choose(table), Call.isChosen(1, 1), table / 128);
        }
    }

    private static void tableBefore() {
        WordRanker x = new WordRanker(1);
        int[] tables = {0, 0, 255, 255, 170, 128, 1, 254, 127};
        int before = 170;
        for (int table : tables) {
            check.due("choose(" + table + ")", x.choose(table), before);
            check.due("choose(256) between", x.choose(256), BAD_ARG);
            check.due("choose(-1) between", x.choose(-1), BAD_ARG);
            before = table;
        }
    }

    private static void wrongLengths(OfNumber kind) {
        for (int n = 1; n <= 7; n++) {
            Situation some = new Situation(n, FEW_WORDS + "0", 85);
            for (int len = 0; len <= n; len++) {
                int answer = kind.at(len).on(some.made());
                check.holds(some + " " + kind.at(len).name() + " is taken", answer >= 0);
            }
            int[] wrong = {Edge.MIN, Edge.MIN + n, -n, -1, n + 1, n + 2, 31, 32, 32 + n, 64, 256, Edge.MAX};
            for (int len : wrong) {
                edge.refused(some, kind.at(len), BAD_ARG);
                edge.refused(Situation.atBothLimits(n, 105), kind.at(len), BAD_ARG);
            }
        }
        // What N became counts, not what was handed over.
        edge.refused(new Situation(0, "", 255), kind.at(2), BAD_ARG);
        edge.refused(new Situation(Edge.MIN, "", 255), kind.at(2), BAD_ARG);
        edge.refused(new Situation(8, "", 255), kind.at(8), BAD_ARG);
        edge.refused(new Situation(Edge.MAX, "", 255), kind.at(8), BAD_ARG);
        edge.taken(new Situation(0, "", 255), kind.at(0), 1);
    }

    private static void countAtBothEnds() {
        for (int n = 1; n <= 7; n++) {
            for (int len = 0; len <= n; len++) {
                edge.taken(new Situation(n, "", 255), Call.count(len), 1 << len);
                edge.taken(new Situation(n, "", 0), Call.count(len), 0);
                edge.taken(new Situation(n, "eA", 170), Call.count(len), len == 0 ? 1 : 0);
                edge.taken(new Situation(n, "eA", 85), Call.count(len), len == 0 ? 0 : 1 << len);
                // The last word of each length.
                edge.taken(new Situation(n, "1+A", 170), Call.count(len), len == 0 ? 0 : 1);
                Situation longest = new Situation(n, "e" + "2.".repeat(n) + "A", 170);
                edge.taken(longest, Call.count(len), len == n ? 1 << n : 0);
            }
        }
    }

    private static void totalOfNoneAndAll() {
        for (int n = 1; n <= 7; n++) {
            edge.taken(new Situation(n, "2*A", 0), Call.TOTAL, 0);
            edge.taken(new Situation(n, "2*A", 85), Call.TOTAL, 0);
            edge.taken(new Situation(n, "2*A", 170), Call.TOTAL, (2 << n) - 1);
            edge.taken(new Situation(n, "2*A", 255), Call.TOTAL, (2 << n) - 1);
            edge.taken(new Situation(n, "eA", 170), Call.TOTAL, 1);
            edge.taken(new Situation(n, "eA", 85), Call.TOTAL, (2 << n) - 2);
            edge.taken(new Situation(n, "e" + "1.".repeat(n) + "A", 170), Call.TOTAL, 1);
        }
    }

    private static void wrongWords(OfWord kind) {
        for (int n = 1; n <= 7; n++) {
            Situation all = new Situation(n, FEW_WORDS + "0", 255);
            for (int len = 0; len <= n; len++) {
                int last = (1 << len) - 1;
                check.holds(kind.at(len, 0).name() + " is taken", kind.at(len, 0).on(all.made()) >= 0);
                check.holds(kind.at(len, last).name() + " is taken", kind.at(len, last).on(all.made()) >= 0);
                for (int bits : new int[] {Edge.MIN, -1, last + 1, last + 2, Edge.MAX}) {
                    edge.refused(all, kind.at(len, bits), BAD_ARG);
                    edge.refused(Situation.atBothLimits(n, 105), kind.at(len, bits), BAD_ARG);
                }
            }
            for (int len : new int[] {Edge.MIN, -1, n + 1, 31, 32, 32 + n, Edge.MAX}) {
                for (int bits : new int[] {Edge.MIN, -1, 0, 1, Edge.MAX}) {
                    edge.refused(all, kind.at(len, bits), BAD_ARG);
                    edge.refused(Situation.atBothLimits(n, 105), kind.at(len, bits), BAD_ARG);
                }
            }
        }
        // What N became counts, not what was handed over.
        edge.refused(new Situation(Edge.MIN, "", 255), kind.at(2, 0), BAD_ARG);
        edge.refused(new Situation(Edge.MAX, "", 255), kind.at(8, 0), BAD_ARG);
        // A word that is not chosen is refused no less, and one that is valid is taken.
        edge.refused(new Situation(3, "", 0), kind.at(3, 8), BAD_ARG);
        edge.refused(new Situation(3, "", 0), kind.at(4, 0), BAD_ARG);
        edge.taken(new Situation(3, "", 0), kind.at(3, 7), 0);
    }

    private static void isChosenAtBothEnds() {
        for (int n = 1; n <= 7; n++) {
            int last = (1 << n) - 1;
            Situation first = new Situation(n, "eA", 170);
            edge.taken(first, Call.isChosen(0, 0), 1);
            edge.taken(first, Call.isChosen(1, 0), 0);
            edge.taken(first, Call.isChosen(n, last), 0);
            Situation lastOnly = new Situation(n, "e" + "1.".repeat(n) + "A", 170);
            edge.taken(lastOnly, Call.isChosen(n, last), 1);
            edge.taken(lastOnly, Call.isChosen(n, last - 1), 0);
            edge.taken(lastOnly, Call.isChosen(0, 0), 0);
            Situation allZeros = new Situation(n, "0+A", 170);
            for (int len = 1; len <= n; len++) {
                edge.taken(allZeros, Call.isChosen(len, 0), 1);
                edge.taken(allZeros, Call.isChosen(len, 1), 0);
                edge.taken(allZeros, Call.isChosen(len, (1 << len) - 1), 0);
            }
        }
    }

    /** With one word chosen: it has none before it, and each later word has one. */
    private static void rankLeavesItselfOut() {
        Situation one = new Situation(3, "01.A", 170);
        edge.taken(one, Call.rank(2, 0), 0);
        edge.taken(one, Call.rank(2, 1), 0);
        edge.taken(one, Call.rank(2, 2), 1);
        Situation others = new Situation(3, "01.A", 85);
        edge.taken(others, Call.rank(2, 0), 3);
        edge.taken(others, Call.rank(2, 1), 4);
        edge.taken(others, Call.rank(2, 2), 4);
        edge.taken(others, Call.rank(2, 3), 5);
        // All words but the last of a length, and the last alone.
        edge.taken(new Situation(3, "11.A", 170), Call.rank(2, 3), 0);
        edge.taken(new Situation(3, "11.A", 170), Call.rank(3, 0), 1);
        edge.taken(new Situation(3, "11.A", 85), Call.rank(2, 3), 6);
        edge.taken(new Situation(3, "11.A", 85), Call.rank(3, 0), 6);
        edge.taken(new Situation(3, "11.A", 85), Call.rank(3, 1), 7);
    }

    private static void rankAtBothEnds() {
        for (int n = 1; n <= 7; n++) {
            int last = (1 << n) - 1;
            int words = (2 << n) - 1;
            edge.taken(new Situation(n, "", 255), Call.rank(0, 0), 0);
            edge.taken(new Situation(n, "", 255), Call.rank(n, last), words - 1);
            edge.taken(new Situation(n, "eA", 170), Call.rank(0, 0), 0);
            edge.taken(new Situation(n, "eA", 170), Call.rank(1, 0), 1);
            edge.taken(new Situation(n, "eA", 85), Call.rank(1, 0), 0);
            edge.taken(new Situation(n, "", 0), Call.rank(n, last), 0);
            String lastWord = "e" + "1.".repeat(n) + "A";
            edge.taken(new Situation(n, lastWord, 170), Call.rank(n, last), 0);
            edge.taken(new Situation(n, lastWord, 85), Call.rank(n, last), words - 1);
        }
    }

    private static void placeTooSmall(OfNumber kind) {
        for (int k : new int[] {Edge.MIN, Edge.MIN + 1, -256, -255, -2, -1}) {
            edge.refused(Situation.fresh(3), kind.at(k), BAD_ARG);
            edge.refused(Situation.atBothLimits(3, 105), kind.at(k), BAD_ARG);
            edge.refused(new Situation(3, FEW_WORDS + "0", 170), kind.at(k), BAD_ARG);
            edge.refused(new Situation(7, "", 255), kind.at(k), BAD_ARG);
        }
        edge.taken(new Situation(7, "", 255), kind.at(0), 0);
    }

    private static void placeTooLarge(OfNumber kind) {
        for (int n = 1; n <= 7; n++) {
            int words = (2 << n) - 1;
            for (int k : new int[] {0, 1, Edge.MAX}) {
                edge.refused(Situation.fresh(n), kind.at(k), BAD_ARG);
                edge.refused(new Situation(n, "2*A", 0), kind.at(k), BAD_ARG);
            }
            for (int table : new int[] {0, 105, 170, 204, 240, 255}) {
                Situation some = Situation.atBothLimits(n, table);
                int total = some.made().total();
                edge.refused(some, kind.at(total), BAD_ARG);
                edge.refused(some, kind.at(Edge.MAX), BAD_ARG);
                check.holds(kind.at(total - 1).name() + " is taken",
                    total == 0 || kind.at(total - 1).on(some.made()) >= 0);
            }
            edge.taken(new Situation(n, "eA", 170), kind.at(0), 0);
            edge.refused(new Situation(n, "eA", 170), kind.at(1), BAD_ARG);
            edge.refused(new Situation(n, "eA", 85), kind.at(words - 1), BAD_ARG);
            for (int k : new int[] {words, words + 1, 256, Edge.MAX - 1, Edge.MAX}) {
                edge.refused(new Situation(n, "", 255), kind.at(k), BAD_ARG);
            }
        }
    }

    private static void firstAndLastPlace() {
        for (int n = 1; n <= 7; n++) {
            int words = (2 << n) - 1;
            int last = (1 << n) - 1;
            Situation all = new Situation(n, "", 255);
            edge.taken(all, Call.wordLen(0), 0);
            edge.taken(all, Call.wordBits(0), 0);
            edge.taken(all, Call.wordLen(words - 1), n);
            edge.taken(all, Call.wordBits(words - 1), last);
            Situation lastOnly = new Situation(n, "e" + "1.".repeat(n) + "A", 170);
            edge.taken(lastOnly, Call.wordLen(0), n);
            edge.taken(lastOnly, Call.wordBits(0), last);
            edge.refused(lastOnly, Call.wordLen(1), BAD_ARG);
            edge.refused(lastOnly, Call.wordBits(1), BAD_ARG);
            Situation butEmpty = new Situation(n, "eA", 85);
            edge.taken(butEmpty, Call.wordLen(0), 1);
            edge.taken(butEmpty, Call.wordBits(0), 0);
            edge.taken(butEmpty, Call.wordLen(words - 2), n);
            edge.taken(butEmpty, Call.wordBits(words - 2), last);
        }
    }

    private static void placesOfTheMoment() {
        WordRanker x = Build.made(2, "2A");
        check.due("total", x.total(), 2);
        check.due("wordBits(1) of two", x.wordBits(1), 1);
        check.due("wordBits(2) of two", x.wordBits(2), BAD_ARG);
        x.choose(85);
        check.due("wordBits(2) of the five others", x.wordBits(2), 1);
        check.due("wordLen(4) of the five others", x.wordLen(4), 2);
        check.due("wordLen(5) of the five others", x.wordLen(5), BAD_ARG);
        x.choose(170);
        Build.run(x, "nA");
        check.due("wordLen(0) of none", x.wordLen(0), BAD_ARG);
        check.due("wordBits(0) of none", x.wordBits(0), BAD_ARG);
    }

    private static void countFromCountsItself() {
        Situation one = new Situation(4, "01.A", 170);
        edge.taken(one, Call.countFrom(0, 0), 1);
        edge.taken(one, Call.countFrom(1, 0), 1);
        edge.taken(one, Call.countFrom(1, 1), 0);
        edge.taken(one, Call.countFrom(2, 1), 1);
        edge.taken(one, Call.countFrom(2, 0), 0);
        edge.taken(one, Call.countFrom(2, 2), 0);
        edge.taken(one, Call.countFrom(3, 2), 0);
        edge.taken(one, Call.countFrom(3, 3), 0);
        // Not chosen itself, but what begins with it: 010 and 011, and the four words after those.
        Situation longer = new Situation(4, "01.2+.A", 170);
        edge.taken(longer, Call.countFrom(2, 1), 6);
        edge.taken(longer, Call.countFrom(1, 0), 6);
        edge.taken(longer, Call.countFrom(3, 2), 3);
        edge.taken(longer, Call.countFrom(3, 3), 3);
        edge.taken(longer, Call.countFrom(3, 1), 0);
        edge.taken(longer, Call.countFrom(3, 4), 0);
        Situation both = new Situation(4, "01.2*.A", 170);
        edge.taken(both, Call.countFrom(2, 1), 7);
        edge.taken(new Situation(4, "01.A", 85), Call.countFrom(2, 1), 6);
    }

    private static void countFromAtBothEnds() {
        for (int n = 1; n <= 7; n++) {
            int last = (1 << n) - 1;
            Situation all = new Situation(n, "", 255);
            for (int len = 0; len <= n; len++) {
                edge.taken(all, Call.countFrom(len, 0), (2 << (n - len)) - 1);
                edge.taken(all, Call.countFrom(len, (1 << len) - 1), (2 << (n - len)) - 1);
            }
            Situation lastOnly = new Situation(n, "e" + "1.".repeat(n) + "A", 170);
            for (int len = 0; len <= n; len++) {
                edge.taken(lastOnly, Call.countFrom(len, (1 << len) - 1), 1);
            }
            edge.taken(lastOnly, Call.countFrom(n, last - 1), 0);
            edge.taken(lastOnly, Call.countFrom(1, 0), 0);
            Situation empty = new Situation(n, "eA", 170);
            edge.taken(empty, Call.countFrom(0, 0), 1);
            edge.taken(empty, Call.countFrom(1, 0), 0);
            edge.taken(empty, Call.countFrom(n, last), 0);
        }
    }

    private static void leastGroups() {
        for (int n = 1; n <= 7; n++) {
            for (int len = 0; len <= n; len++) {
                edge.taken(new Situation(n, "", 255), Call.groups(len), 1);
                edge.taken(new Situation(n, "", 0), Call.groups(len), 1);
                edge.taken(new Situation(n, "22.*A", 170), Call.groups(len), 1);
            }
            edge.taken(new Situation(n, "01.*1?.A", 170), Call.groups(0), 1);
        }
    }

    private static void mostGroups() {
        // The letter that many places from the end tells all words of that length apart.
        for (int len = 1; len <= 4; len++) {
            String postfix = "2*1." + "2.".repeat(len - 1) + "A";
            for (int n = 2 * len - 1; n <= 7; n++) {
                edge.taken(new Situation(n, postfix, 170), Call.groups(len), 1 << len);
            }
        }
        // Each letter of the word decides about another ending: none, 0, 1, 00 and 01.
        String five = "12.2.2.2. 21.2.2.2.0. |A 22.1.2.2.1.B 22.2. 12.0.0. 21.0.1. |.C";
        edge.taken(new Situation(7, five, 254), Call.groups(5), 32);
        // Here there are three endings, so three letters are told apart.
        String six = "12.2.2.2.2.A 21.2.2.2.2.0.B 22.1.2.2.2.1.C";
        edge.taken(new Situation(7, six, 254), Call.groups(6), 8);
        for (int n = 1; n <= 7; n++) {
            String oneWord = "e" + "0.".repeat(n) + "A";
            for (int len = 1; len <= n; len++) {
                edge.taken(new Situation(n, oneWord, 170), Call.groups(len), 2);
            }
        }
    }

    /** Two beginnings differ in words of length N alone, or in words that are too long to count. */
    private static void longestEndings() {
        for (int n = 1; n <= 6; n++) {
            String word = "0" + "1.".repeat(n - 1);
            for (int len = 1; len <= n; len++) {
                edge.taken(new Situation(n, word + "A", 170), Call.groups(len), 2);
                edge.taken(new Situation(n, word + "1.A", 170), Call.groups(len), 1);
                edge.taken(new Situation(n + 1, word + "1.A", 170), Call.groups(len), 2);
            }
        }
        // At length N only the empty ending is left: chosen or not.
        for (int n = 1; n <= 7; n++) {
            edge.taken(new Situation(n, "2*1.A", 170), Call.groups(n), 2);
            edge.taken(new Situation(n, "2*1.2.A", 170), Call.groups(n), n == 1 ? 1 : 2);
        }
    }

    private static void questionsChangeNothing() {
        for (Situation at : new Situation[] {
                Situation.fresh(1), Situation.deep(0), Situation.deep(1), Situation.atBothLimits(3, 105),
                Situation.atBothLimits(7, 105), Situation.atBothLimits(7, 255)}) {
            Call[] questions = {
                Call.DEPTH, Call.LETTERS, Call.TOTAL, Call.count(0), Call.count(1), Call.groups(0),
                Call.groups(1), Call.isChosen(0, 0), Call.isChosen(1, 1), Call.rank(0, 0), Call.rank(1, 1),
                Call.countFrom(0, 0), Call.countFrom(1, 1), Call.wordLen(0), Call.wordLen(1),
                Call.wordBits(0), Call.wordBits(1)
            };
            for (Call question : questions) {
                edge.changesNothing(at, question);
            }
            int n = at.maxLen();
            edge.changesNothing(at, Call.count(n));
            edge.changesNothing(at, Call.groups(n));
            edge.changesNothing(at, Call.isChosen(n, (1 << n) - 1));
            edge.changesNothing(at, Call.rank(n, (1 << n) - 1));
            edge.changesNothing(at, Call.countFrom(n, (1 << n) - 1));
        }
    }
}

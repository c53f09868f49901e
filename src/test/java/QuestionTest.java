/** Promises 15 to 23: the table and the questions about the chosen words. */
public final class QuestionTest {
    private static final Check check = new Check();
    private static final int MIN = Integer.MIN_VALUE;
    private static final int MAX = Integer.MAX_VALUE;

    public static void main(String[] args) {
        chooseAnswersTheTableBefore();
        everyDigitOfTheTable();
        counts();
        places();
        beginnings();
        groups();
        wrongLengths();
        wrongWords();
        wrongPlaces();
        questionsSeeTheMoment();
        check.end();
    }

    private static void chooseAnswersTheTableBefore() {
        WordRanker x = new WordRanker(3);
        int before = 170;
        for (int table = 0; table <= 255; table++) {
            check.due("choose(" + table + ")", x.choose(table), before);
            before = table;
        }
        for (int table : new int[] {MIN, -1, 256, 257, 426, MAX}) {
            check.due("choose(" + table + ")", x.choose(table), WordRanker.BAD_ARG);
        }
        check.due("refused tables leave the last", x.choose(0), 255);
    }

    /** The eight words of length three each have another index. */
    private static void everyDigitOfTheTable() {
        for (int digit = 0; digit < 8; digit++) {
            WordRanker x = Build.made(3, "22.1.A21.2.B12.2.C");
            x.choose(1 << digit);
            check.due("count, digit " + digit, x.count(3), 1);
            check.due("word, digit " + digit, x.wordBits(x.total() - 1), digit);
            x.choose(255 - (1 << digit));
            check.due("count without digit " + digit, x.count(3), 7);
            check.due("isChosen without digit " + digit, x.isChosen(3, digit), 0);
        }
    }

    /** Chosen are 0, 1, 01 and 010: words of lengths one to three. */
    private static WordRanker fourWords() {
        return Build.made(3, "201.0?.|A");
    }

    private static void counts() {
        WordRanker x = fourWords();
        int[] want = {0, 2, 1, 1};
        for (int len = 0; len <= 3; len++) {
            check.due("count(" + len + ")", x.count(len), want[len]);
        }
        check.due("total", x.total(), 4);
        x.choose(0);
        check.due("total of table 0", x.total(), 0);
        x.choose(255);
        check.due("total of table 255", x.total(), 15);
        check.due("count(0) of table 255", x.count(0), 1);
        check.due("isChosen of the empty word", x.isChosen(0, 0), 1);
    }

    private static void places() {
        WordRanker x = fourWords();
        int[][] words = {{1, 0}, {1, 1}, {2, 1}, {3, 2}};
        for (int k = 0; k < 4; k++) {
            check.due("wordLen(" + k + ")", x.wordLen(k), words[k][0]);
            check.due("wordBits(" + k + ")", x.wordBits(k), words[k][1]);
            check.due("rank of word " + k, x.rank(words[k][0], words[k][1]), k);
            check.due("isChosen of word " + k, x.isChosen(words[k][0], words[k][1]), 1);
        }
        check.due("rank(0, 0)", x.rank(0, 0), 0);
        check.due("rank(2, 0), itself not chosen", x.rank(2, 0), 2);
        check.due("isChosen(2, 0)", x.isChosen(2, 0), 0);
        check.due("rank(2, 2)", x.rank(2, 2), 3);
        check.due("rank(3, 3)", x.rank(3, 3), 4);
        check.due("rank(3, 7)", x.rank(3, 7), 4);
        WordRanker all = new WordRanker(7);
        all.choose(255);
        check.due("wordLen(0) of all", all.wordLen(0), 0);
        check.due("wordBits(0) of all", all.wordBits(0), 0);
        check.due("wordLen(254) of all", all.wordLen(254), 7);
        check.due("wordBits(254) of all", all.wordBits(254), 127);
        check.due("wordLen(127) of all", all.wordLen(127), 7);
        check.due("wordLen(126) of all", all.wordLen(126), 6);
        check.due("rank(7, 127) of all", all.rank(7, 127), 254);
    }

    private static void beginnings() {
        WordRanker x = fourWords();
        check.due("from the empty word", x.countFrom(0, 0), 4);
        check.due("from 0", x.countFrom(1, 0), 3);
        check.due("from 1", x.countFrom(1, 1), 1);
        check.due("from 01", x.countFrom(2, 1), 2);
        check.due("from 00", x.countFrom(2, 0), 0);
        check.due("from 010", x.countFrom(3, 2), 1);
        check.due("from 011", x.countFrom(3, 3), 0);
        x.choose(255);
        check.due("from 1 of all", x.countFrom(1, 1), 7);
        check.due("from 111 of all", x.countFrom(3, 7), 1);
    }

    private static void groups() {
        WordRanker x = fourWords();
        // Of length two: 01 is alone, 00, 10 and 11 lead to no chosen word.
        int[] want = {1, 2, 2, 2};
        for (int len = 0; len <= 3; len++) {
            check.due("groups(" + len + ")", x.groups(len), want[len]);
        }
        x.choose(255);
        check.due("groups(3) of all", x.groups(3), 1);
        x.choose(0);
        check.due("groups(3) of none", x.groups(3), 1);
        // The third letter from the end tells all words of length three apart, if N lets one see it.
        WordRanker far = Build.made(5, "2*1.2.2.A");
        check.due("groups(3), far", far.groups(3), 8);
        check.due("groups(4), far", far.groups(4), 4);
        check.due("groups(5), far", far.groups(5), 2);
        WordRanker near = Build.made(3, "2*1.2.2.A");
        check.due("groups(1), near", near.groups(1), 2);
        check.due("groups(2), near", near.groups(2), 2);
        // Alike at every length but the last one that fits.
        WordRanker last = Build.made(3, "00.1.A");
        check.due("groups(1), last", last.groups(1), 2);
        check.due("groups(2), last", last.groups(2), 2);
    }

    private static void wrongLengths() {
        WordRanker x = fourWords();
        for (int len : new int[] {MIN, -1, 4, 31, 32, 33, 35, MAX}) {
            check.due("count(" + len + ")", x.count(len), WordRanker.BAD_ARG);
            check.due("groups(" + len + ")", x.groups(len), WordRanker.BAD_ARG);
        }
    }

    private static void wrongWords() {
        WordRanker x = fourWords();
        x.choose(255);
        int[][] words = {
            {-1, 0}, {4, 0}, {4, 3}, {32, 0}, {33, 1}, {MIN, 0}, {MAX, 0}, {MIN, MIN}, {MAX, MAX},
            {0, 1}, {0, -1}, {1, 2}, {2, 4}, {3, 8}, {3, -1}, {3, MIN}, {3, MAX}, {1, -1}
        };
        for (int[] word : words) {
            String name = "(" + word[0] + ", " + word[1] + ")";
            check.due("isChosen" + name, x.isChosen(word[0], word[1]), WordRanker.BAD_ARG);
            check.due("rank" + name, x.rank(word[0], word[1]), WordRanker.BAD_ARG);
            check.due("countFrom" + name, x.countFrom(word[0], word[1]), WordRanker.BAD_ARG);
        }
    }

    private static void wrongPlaces() {
        WordRanker x = fourWords();
        for (int k : new int[] {MIN, -1, 4, 5, 256, MAX}) {
            check.due("wordLen(" + k + ")", x.wordLen(k), WordRanker.BAD_ARG);
            check.due("wordBits(" + k + ")", x.wordBits(k), WordRanker.BAD_ARG);
        }
        WordRanker nothing = new WordRanker(7);
        check.due("wordLen(0) of nothing", nothing.wordLen(0), WordRanker.BAD_ARG);
        check.due("wordBits(0) of nothing", nothing.wordBits(0), WordRanker.BAD_ARG);
    }

    private static void questionsSeeTheMoment() {
        WordRanker x = Build.made(2, "0A");
        check.due("at first", x.total(), 1);
        Build.run(x, "2*");
        check.due("the stack is not asked", x.total(), 1);
        Build.run(x, "A");
        check.due("after store", x.total(), 7);
        x.choose(85);
        check.due("after choose", x.total(), 0);
    }
}

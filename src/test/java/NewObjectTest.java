/** Promise 1: what a new object holds, and the lengths that its argument becomes. */
public final class NewObjectTest {
    private static final Check check = new Check();

    public static void main(String[] args) {
        emptyAtFirst();
        lengthIsBroughtIntoRange();
        objectsAreApart();
        check.end();
    }

    private static void emptyAtFirst() {
        WordRanker x = new WordRanker(4);
        check.due("depth", x.depth(), 0);
        check.due("letters", x.letters(), 0);
        check.due("total", x.total(), 0);
        check.due("first table", x.choose(1), 170);
        // Table 1 picks the words in no slot, so every slot must be empty.
        check.due("words in no slot", x.total(), 31);
    }

    private static void lengthIsBroughtIntoRange() {
        int[][] rows = {
            {Integer.MIN_VALUE, 1}, {-1, 1}, {0, 1}, {1, 1}, {2, 2}, {3, 3}, {4, 4}, {5, 5}, {6, 6},
            {7, 7}, {8, 7}, {Integer.MAX_VALUE, 7}
        };
        for (int[] row : rows) {
            String name = "maxLen " + row[0];
            WordRanker x = new WordRanker(row[0]);
            x.choose(255);
            check.due(name + " total", x.total(), (2 << row[1]) - 1);
            check.due(name + " count of the greatest", x.count(row[1]), 1 << row[1]);
            check.due(name + " count beyond", x.count(row[1] + 1), WordRanker.BAD_ARG);
        }
    }

    private static void objectsAreApart() {
        WordRanker one = Build.made(3, "0A1");
        WordRanker other = new WordRanker(3);
        one.choose(1);
        check.due("the other's depth", other.depth(), 0);
        check.due("the other's total", other.total(), 0);
        check.due("the other's table", other.choose(0), 170);
        check.due("the one's total", one.total(), 14);
    }
}

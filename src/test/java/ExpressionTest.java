/** Promises 2 to 10: the words that expressions stand for, each listed by hand. */
public final class ExpressionTest {
    private static final Check check = new Check();

    public static void main(String[] args) {
        pushes();
        cat();
        alt();
        star();
        plus();
        opt();
        reverse();
        oldCellsAreCleared();
        longWords();
        check.end();
    }

    private static void words(int maxLen, String postfix, String want) {
        WordRanker x = Build.made(maxLen, postfix + "A");
        check.same(postfix + " up to " + maxLen, Build.chosen(x, maxLen), want);
    }

    private static void pushes() {
        words(3, "0", "0");
        words(3, "1", "1");
        words(3, "2", "0 1");
        words(3, "e", "e");
        words(3, "n", "");
        words(1, "2", "0 1");
    }

    private static void cat() {
        words(3, "01.", "01");
        words(3, "10.", "10");
        words(3, "02.", "00 01");
        words(3, "22.1.", "001 011 101 111");
        words(3, "e0.", "0");
        words(3, "0e.", "0");
        words(3, "ee.", "e");
        words(3, "n0.", "");
        words(3, "0n.", "");
        words(3, "ne.", "");
        words(3, "0?1?.", "e 0 1 01");
        words(3, "0?0?.", "e 0 00");
        words(3, "0*1.", "1 01 001");
        words(3, "01.0|01.1|.", "01 001 011");
        words(4, "01.0|10.1|.", "01 010 011 0110");
        words(1, "01.", "");
        words(2, "01.0.", "");
    }

    private static void alt() {
        words(2, "01|", "0 1");
        words(2, "00|", "0");
        words(2, "0n|", "0");
        words(2, "n0|", "0");
        words(2, "e0|", "e 0");
        words(2, "0e|", "e 0");
        words(2, "nn|", "");
        words(2, "01.10.|", "01 10");
    }

    private static void star() {
        words(3, "0*", "e 0 00 000");
        words(3, "n*", "e");
        words(3, "e*", "e");
        words(2, "2*", "e 0 1 00 01 10 11");
        words(4, "01.*", "e 01 0101");
        words(4, "01.0|*", "e 0 00 01 000 001 010 0000 0001 0010 0100 0101");
        words(3, "0**", "e 0 00 000");
        words(3, "0?*", "e 0 00 000");
        words(7, "000..00.|*1.", "1 001 0001 00001 000001 0000001");
        words(7, "000..*", "e 000 000000");
    }

    private static void plus() {
        words(3, "0+", "0 00 000");
        words(3, "n+", "");
        words(3, "e+", "e");
        words(3, "0?+", "e 0 00 000");
        words(4, "01.+", "01 0101");
        words(4, "10.1|+", "1 10 11 101 110 111 1010 1011 1101 1110 1111");
        words(7, "000..+", "000 000000");
        words(3, "0++", "0 00 000");
    }

    private static void opt() {
        words(2, "0?", "e 0");
        words(2, "n?", "e");
        words(2, "e?", "e");
        words(2, "0??", "e 0");
        words(3, "01.?", "e 01");
    }

    private static void reverse() {
        words(3, "01.r", "10");
        words(3, "01.rr", "01");
        words(3, "00.1.r", "100");
        words(3, "0r", "0");
        words(3, "er", "e");
        words(3, "nr", "");
        words(3, "02.r", "00 10");
        words(4, "01.*1.r", "1 110");
        words(3, "01.r1.", "101");
        words(3, "000..01.|r", "10 000");
        words(7, "000001.....r", "100000");
        words(7, "1000011......r", "1100001");
        words(4, "01.0.0.1.r", "");
        words(5, "01.0.0.1.r", "10010");
    }

    private static void oldCellsAreCleared() {
        words(3, "2*B0", "0");
        words(3, "2*Be", "e");
        words(3, "2*Bn", "");
        words(3, "n2*|n.", "");
        words(3, "02*.Bn1|", "1");
        WordRanker x = Build.made(3, "2*2*");
        x.discard();
        Build.run(x, "0e.A");
        check.same("after discard", Build.chosen(x, 3), "0");
    }

    private static void longWords() {
        words(7, "0101010......", "0101010");
        words(7, "01010101.......", "");
        words(7, "01010101.......1|", "1");
    }
}

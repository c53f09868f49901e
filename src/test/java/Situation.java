/** What was done with an object since it was new, so that it can be made again as often as needed. */
record Situation(int maxLen, String postfix, int table) {
    /** Fills the three slots with three languages and leaves the stack empty. */
    static final String SLOTS = "01.*A 2B 1?C ";

    private static final int TABLE = 105;
    private static final String[] EXPRESSIONS = {"0", "12.", "e", "n", "2*", "1+", "11.", "0?"};

    static Situation fresh(int maxLen) {
        return new Situation(maxLen, "", 170);
    }

    /** Filled slots and so many expressions on the stack, eight letters in all if there are eight. */
    static Situation deep(int expressions) {
        StringBuilder postfix = new StringBuilder(SLOTS);
        for (int place = 0; place < expressions; place++) {
            postfix.append(EXPRESSIONS[place]);
        }
        return new Situation(3, postfix.toString(), TABLE);
    }

    /** Filled slots, so many letters in the lowest expression, and none in the ones above it. */
    static Situation lettered(int letters, int expressions) {
        String postfix = SLOTS + "e" + "2|".repeat(letters) + "e".repeat(expressions - 1);
        return new Situation(3, postfix, TABLE);
    }

    /** Filled slots, and a stack at both limits: eight expressions and twelve letters, some in each place. */
    static Situation atBothLimits(int maxLen, int table) {
        return new Situation(maxLen, SLOTS + "01. 12.* 20. 11.? 0+ 1 2* 0", table);
    }

    /** Throws if a call on the way is refused: the situation would not be the one that was meant. */
    WordRanker made() {
        WordRanker x = new WordRanker(maxLen);
        for (String sign : postfix.split("")) {
            if (Build.run(x, sign) < 0) {
                throw new IllegalStateException(sign + " was refused in " + this);
            }
        }
        x.choose(table);
        return x;
    }
}

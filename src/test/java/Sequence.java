/** Numbers and expressions that look arbitrary but are the same on every machine. */
final class Sequence {
    private long state;

    Sequence(int start) {
        state = start * 7919L + 1;
        number(2);
    }

    /** A number from 0 to below the bound. */
    int number(int bound) {
        state = state * 6364136223846793005L + 1442695040888963407L;
        return (int) ((state >>> 33) % bound);
    }

    char sign(String signs) {
        return signs.charAt(number(signs.length()));
    }

    /** An expression with at most so many letters, in the postfix signs of Build. */
    String expression(int letters) {
        String change = number(4) == 0 ? "" + sign("*+?r") : "";
        if (letters == 1) {
            return sign(number(15) == 0 ? "en" : "012") + change;
        }
        int left = 1 + number(letters - 1);
        return expression(left) + expression(letters - left) + sign("..|") + change;
    }
}

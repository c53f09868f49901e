/** Compares answers with what is due, and ends a test with exit code 1 if one was wrong. */
final class Check {
    private int asked = 0;
    private int wrong = 0;
    private String place = "";

    void due(String what, long got, long want) {
        same(what, Long.toString(got), Long.toString(want));
    }

    void same(String what, String got, String want) {
        asked++;
        if (!got.equals(want)) {
            wrong++;
            System.out.println(place + what + " answered " + got + ", due is " + want);
        }
    }

    void holds(String what, boolean so) {
        same(what, Boolean.toString(so), "true");
    }

    /** Runs one case by itself: if a call of it throws, that is a wrong answer and the others still run. */
    void part(String name, Runnable body) {
        int before = asked;
        place = name + ": ";
        try {
            body.run();
        } catch (RuntimeException | Error thrown) {
            same("a call", thrown.toString(), "anything but a throw");
        }
        holds("something was asked", asked > before);
        place = "";
    }

    void end() {
        System.out.println(asked + " answers, " + wrong + " not as due");
        if (wrong != 0 || asked == 0) {
            System.exit(1);
        }
    }
}

import java.util.HashMap;
import java.util.List;
import java.util.Map;

/** The two sides of a boundary: a call that is taken, and a call that is refused and changes nothing. */
final class Edge {
    static final int MIN = Integer.MIN_VALUE;
    static final int MAX = Integer.MAX_VALUE;

    private final Check check;
    private final Map<Situation, List<String>> asIfNotMade = new HashMap<>();

    Edge(Check check) {
        this.check = check;
    }

    void taken(Situation at, Call call, int want) {
        check.due(at + " " + call.name(), call.on(at.made()), want);
    }

    void refused(Situation at, Call call, int code) {
        String name = at + " " + call.name();
        WordRanker x = at.made();
        check.due(name, call.on(x), code);
        check.due(name + " once more", call.on(x), code);
        changesNothing(at, call);
    }

    /** Every answer after the call is the one that is given without it. */
    void changesNothing(Situation at, Call call) {
        List<String> without = asIfNotMade.computeIfAbsent(at, same -> Afterwards.of(same::made));
        List<String> with = Afterwards.of(() -> {
            WordRanker touched = at.made();
            call.on(touched);
            return touched;
        });
        check.same(at + " difference after " + call.name(), Afterwards.difference(with, without), "none");
    }

    /** The words of the top expression, which is stored for that. */
    void top(Situation at, Call call, String words) {
        WordRanker x = at.made();
        call.on(x);
        x.store(0);
        x.choose(170);
        check.same(at + " top after " + call.name(), Build.chosen(x, at.maxLen()), words);
    }

    /** The answer of a second call that follows the first one. */
    void then(Situation at, Call first, Call second, int want) {
        WordRanker x = at.made();
        first.on(x);
        check.due(at + " " + first.name() + " " + second.name(), second.on(x), want);
    }
}

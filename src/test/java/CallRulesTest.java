import java.io.IOException;
import java.nio.file.Files;
import java.nio.file.Path;
import java.util.HashMap;
import java.util.Map;
import java.util.Set;
import java.util.TreeSet;
import java.util.regex.Matcher;
import java.util.regex.Pattern;

/** Rules 8 and 10 of LANGUAGE.md, read off the source: loops, who calls whom, how long methods are. */
public final class CallRulesTest {
    private static final Check check = new Check();
    private static final Path SOURCE = Path.of("src/main/java/WordRanker.java");
    private static final int DEEPEST = 6;
    private static final int MOST_LINES = 60;
    private static final Pattern HEAD =
        Pattern.compile("(?m)^    (?:public|private) (?:static )?(?:\\w+ )?(\\w+)\\([^)]*\\) \\{$");

    private final String code;
    private final Map<String, String> bodies = new HashMap<>();
    private final Map<String, Set<String>> callees = new HashMap<>();

    private CallRulesTest(String code) {
        this.code = code;
        Matcher head = HEAD.matcher(code);
        while (head.find()) {
            int end = code.indexOf("\n    }\n", head.end());
            bodies.put(head.group(1), code.substring(head.end(), end));
        }
        bodies.forEach((name, body) -> callees.put(name, calledIn(body)));
    }

    public static void main(String[] args) throws IOException {
        String source = Files.readString(SOURCE);
        String code = source.replaceAll("(?s)/\\*.*?\\*/", " ").replaceAll("//[^\n]*", " ");
        CallRulesTest rules = new CallRulesTest(code);
        check.part("every method is read", rules::everyMethodIsRead);
        check.part("rule 8, recursion, and rule 10, depth of calls", rules::depthOfCalls);
        check.part("rule 8, loops", rules::loops);
        check.part("rule 10, calls inside arguments", rules::callsInArguments);
        check.part("rule 10, lengths", rules::lengths);
        check.end();
    }

    private void everyMethodIsRead() {
        Set<String> names = new TreeSet<>(Set.of("WordRanker"));
        for (var method : WordRanker.class.getDeclaredMethods()) {
            names.add(method.getName());
        }
        Set<String> read = new TreeSet<>(bodies.keySet());
        check.same("methods found in the source", read.toString(), names.toString());
    }

    private Set<String> calledIn(String text) {
        Set<String> called = new TreeSet<>();
        Matcher call = Pattern.compile("(\\w+)\\s*\\(").matcher(text);
        while (call.find()) {
            if (bodies.containsKey(call.group(1))) {
                called.add(call.group(1));
            }
        }
        return called;
    }

    /** Takes off the methods that call none of those left, again and again: a circle would stay. */
    private void depthOfCalls() {
        Set<String> left = new TreeSet<>(bodies.keySet());
        for (int depth = 1; depth <= DEEPEST; depth++) {
            Set<String> before = new TreeSet<>(left);
            left.removeIf(name -> callees.get(name).stream().noneMatch(before::contains));
        }
        check.same("methods that call each other in a circle or too deep", left.toString(), "[]");
    }

    /** Each loop counts one variable, which nothing in its body changes, by one against a bound. */
    private void loops() {
        check.holds("for is the only loop", !Pattern.compile("\\b(while|do)\\b").matcher(code).find());
        Matcher loop = Pattern.compile("\\bfor \\((.*)\\) \\{\n").matcher(code);
        Pattern form = Pattern.compile("int (\\w+) = [^;]+; \\1 (<|<=|>=) [^;]+; \\1(\\+\\+|--)");
        int loops = 0;
        while (loop.find()) {
            loops++;
            Matcher parts = form.matcher(loop.group(1));
            boolean counts = parts.matches() && parts.group(2).startsWith("<") == parts.group(3).equals("++");
            check.holds(loop.group(1) + " counts towards its bound", counts);
            if (counts) {
                String changes = "\\b" + parts.group(1) + "\\s*([-+*/%&|^]|<<|>>)?=[^=]|\\b"
                    + parts.group(1) + "(\\+\\+|--)";
                String body = bodyFrom(loop.end() - 2);
                check.holds(loop.group(1) + " is not changed inside",
                    !Pattern.compile(changes).matcher(body).find());
            }
        }
        check.due("loops read", loops, code.split("\\bfor\\b", -1).length - 1);
    }

    private String bodyFrom(int brace) {
        return code.substring(brace, closing(brace, '{', '}'));
    }

    private int closing(int from, char open, char close) {
        int depth = 0;
        for (int at = from; at < code.length(); at++) {
            depth += code.charAt(at) == open ? 1 : code.charAt(at) == close ? -1 : 0;
            if (depth == 0) {
                return at;
            }
        }
        return code.length();
    }

    private void callsInArguments() {
        Matcher call = Pattern.compile("(\\w+)\\(").matcher(code);
        while (call.find()) {
            if (bodies.containsKey(call.group(1))) {
                String arguments = code.substring(call.end(), closing(call.end() - 1, '(', ')'));
                check.same("calls inside " + call.group(1) + "(" + arguments + ")",
                    calledIn(arguments).toString(), "[]");
            }
        }
    }

    private void lengths() {
        bodies.forEach((name, body) ->
            check.holds(name + " is short", body.lines().count() <= MOST_LINES));
        check.holds("at most forty fields", WordRanker.class.getDeclaredFields().length <= 40);
    }
}

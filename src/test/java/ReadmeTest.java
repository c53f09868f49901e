import java.io.IOException;
import java.lang.reflect.Method;
import java.nio.file.Files;
import java.nio.file.Path;
import java.util.Arrays;
import java.util.Set;
import java.util.TreeSet;
import java.util.regex.Matcher;
import java.util.regex.Pattern;
import java.util.stream.Stream;

/** README.md: its example answers what it says, its tables are true, and no call or test is left out. */
public final class ReadmeTest {
    private static final Check check = new Check();
    private static final Path TESTS = Path.of("src/test/java");

    private final String text;

    private ReadmeTest(String text) {
        this.text = text;
    }

    public static void main(String[] args) throws IOException {
        ReadmeTest readme = new ReadmeTest(Files.readString(Path.of("README.md")));
        String tests = testNames();
        check.part("the example", readme::example);
        check.part("the tables", readme::tables);
        check.part("the calls", readme::everyCallIsNamed);
        check.part("the tests", () -> readme.everyTestIsNamed(tests));
        check.end();
    }

    /** Each line of the example is one call, with its answer at the beginning of the comment. */
    private void example() {
        Matcher block = Pattern.compile("(?s)```java\n(.*?)```").matcher(text);
        check.holds("there is an example", block.find());
        Pattern call = Pattern.compile("x\\.(\\w+)\\(([-0-9, ]*)\\); +// (-?\\d+)(:.*)?");
        String[] lines = block.group(1).split("\n");
        check.holds(lines[0], lines[0].startsWith("WordRanker x = new WordRanker(4);"));
        WordRanker x = new WordRanker(4);
        for (String line : Arrays.asList(lines).subList(1, lines.length)) {
            Matcher parts = call.matcher(line);
            check.holds(line + " is one call with its answer", parts.matches());
            check.same(line, answer(x, parts.group(1), parts.group(2)), parts.group(3));
        }
    }

    private static String answer(WordRanker x, String name, String arguments) {
        Object[] numbers = Stream.of(arguments.split("[, ]+")).filter(part -> !part.isEmpty())
            .map(Integer::valueOf).toArray();
        Class<?>[] types = new Class<?>[numbers.length];
        Arrays.fill(types, int.class);
        try {
            return "" + WordRanker.class.getMethod(name, types).invoke(x, numbers);
        } catch (ReflectiveOperationException wrong) {
            return wrong.toString();
        }
    }

    /** Each word of length three is in other slots: its first letter is slot 2, its last slot 0. */
    private void tables() {
        table(170, "001 011 101 111");
        table(204, "010 011 110 111");
        table(240, "100 101 110 111");
        table(85, "000 010 100 110");
        table(136, "011 111");
        table(238, "001 010 011 101 110 111");
        table(34, "001 101");
        table(128, "111");
        table(254, "001 010 011 100 101 110 111");
        table(1, "000");
    }

    private void table(int table, String words) {
        check.holds("table " + table + " is in a row", text.matches("(?s).*\n\\|[ 0-9,]*\\b" + table + "\\b.*"));
        WordRanker x = new Situation(3, "22.1.A 21.2.B 12.2.C", table).made();
        StringBuilder chosen = new StringBuilder();
        for (int bits = 0; bits < 8; bits++) {
            chosen.append(x.isChosen(3, bits) == 1 ? " " + Build.text(3, bits) : "");
        }
        check.same("table " + table, chosen.toString().trim(), words);
    }

    private void everyCallIsNamed() {
        for (Method method : WordRanker.class.getMethods()) {
            if (method.getDeclaringClass() == WordRanker.class) {
                String row = "(?s).*\n\\|[^|\n]*`" + method.getName() + "\\(.*";
                check.holds(method.getName() + " is in a row", text.matches(row));
            }
        }
    }

    private void everyTestIsNamed(String tests) {
        Matcher row = Pattern.compile("(?m)^\\| `(\\w+Test)` \\|").matcher(text);
        Set<String> named = new TreeSet<>();
        while (row.find()) {
            named.add(row.group(1));
        }
        check.same("tests in the table", named.toString(), tests);
    }

    private static String testNames() throws IOException {
        try (Stream<Path> files = Files.list(TESTS)) {
            Set<String> names = new TreeSet<>();
            files.map(file -> file.getFileName().toString()).filter(name -> name.endsWith("Test.java"))
                .forEach(name -> names.add(name.replace(".java", "")));
            return names.toString();
        }
    }
}

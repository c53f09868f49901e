import java.io.IOException;
import java.lang.reflect.Field;
import java.lang.reflect.Method;
import java.lang.reflect.Modifier;
import java.nio.file.Files;
import java.nio.file.Path;
import java.util.HashSet;
import java.util.Set;
import java.util.regex.Matcher;
import java.util.regex.Pattern;

/** Those rules of LANGUAGE.md that can be read off the source's words or off the class. */
public final class RulesTest {
    private static final Check check = new Check();
    private static final Path SOURCE = Path.of("src/main/java/WordRanker.java");
    private static final Set<String> FORBIDDEN = Set.of(
        "import", "package", "float", "double", "String", "Math", "Integer", "Long", "System", "Arrays",
        "Object", "getClass", "hashCode", "equals", "toString", "clone", "finalize", "notify", "notifyAll",
        "wait", "throw", "throws", "try", "catch", "finally", "synchronized", "assert", "instanceof",
        "null", "interface", "enum", "record", "var", "native", "volatile", "protected");

    public static void main(String[] args) throws IOException {
        String source = Files.readString(SOURCE);
        String code = source.replaceAll("(?s)/\\*.*?\\*/", " ").replaceAll("//[^\n]*", " ");
        words(code);
        arrays(code);
        fields();
        methods();
        check.end();
    }

    private static void words(String code) {
        Matcher word = Pattern.compile("[A-Za-z_]+").matcher(code);
        while (word.find()) {
            check.holds("the word " + word.group() + " is allowed", !FORBIDDEN.contains(word.group()));
        }
        check.holds("no lambda or method reference", !code.contains("->") && !code.contains("::"));
        check.holds("one class", code.split("\\bclass\\b", -1).length == 2);
    }

    /** Rule 4: arrays are made in the fields' initialisers alone, with a constant length. */
    private static void arrays(String code) {
        Pattern initialiser = Pattern.compile(
            "(?m)^    private final (\\w+)\\[\\] \\w+ = new \\1\\[[A-Z_0-9]+\\];$");
        check.holds("no other new", !initialiser.matcher(code).replaceAll("").contains("new "));
        check.holds("no array of arrays", !code.contains("[][]"));
    }

    private static void fields() {
        Set<Class<?>> types = Set.of(int.class, long.class, short.class, byte.class, char.class,
            boolean.class, int[].class, long[].class, short[].class, byte[].class, char[].class,
            boolean[].class);
        for (Field field : WordRanker.class.getDeclaredFields()) {
            check.holds(field + " has an allowed type", types.contains(field.getType()));
            if (Modifier.isStatic(field.getModifiers())) {
                boolean whole = field.getType() == int.class || field.getType() == long.class;
                check.holds(field + " is a constant", whole && Modifier.isFinal(field.getModifiers()));
            }
        }
    }

    private static void methods() {
        Set<String> names = new HashSet<>();
        for (Method method : WordRanker.class.getDeclaredMethods()) {
            check.holds(method + " shares its name with none", names.add(method.getName()));
            check.holds(method + " takes at most seven", method.getParameterCount() <= 7);
            check.holds(method + " answers no array", !method.getReturnType().isArray());
        }
    }
}

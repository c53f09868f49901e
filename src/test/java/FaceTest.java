import java.lang.reflect.Field;
import java.lang.reflect.Member;
import java.lang.reflect.Method;
import java.lang.reflect.Modifier;
import java.util.Arrays;
import java.util.Set;
import java.util.TreeSet;

/** The public face: every member that the document names, and no other that can be seen. */
public final class FaceTest {
    private static final Check check = new Check();
    private static final String METHODS =
        "int alt[] | int cat[] | int choose[int] | int countFrom[int, int] | int count[int] | int depth[]"
        + " | int groups[int] | int isChosen[int, int] | int letter[int] | int letters[] | int none[]"
        + " | int opt[] | int plus[] | int rank[int, int] | int reverse[] | int star[] | int store[int]"
        + " | int total[] | int unit[] | int wordBits[int] | int wordLen[int] | void discard[]";

    public static void main(String[] args) {
        Class<?> face = WordRanker.class;
        check.holds("public and final", face.getModifiers() == (Modifier.PUBLIC | Modifier.FINAL));
        check.due("constructors", face.getDeclaredConstructors().length, 1);
        check.same("constructor", face.getDeclaredConstructors()[0].toString(), "public WordRanker(int)");
        check.due("inner classes", face.getDeclaredClasses().length, 0);
        methods(face);
        fields(face);
        check.due("BAD_ARG", WordRanker.BAD_ARG, -1);
        check.due("FULL", WordRanker.FULL, -2);
        check.due("TOO_FEW", WordRanker.TOO_FEW, -3);
        check.end();
    }

    private static void methods(Class<?> face) {
        Set<String> seen = new TreeSet<>();
        for (Method method : face.getDeclaredMethods()) {
            if (isSeen(method)) {
                String types = Arrays.toString(method.getParameterTypes());
                seen.add(method.getReturnType() + " " + method.getName() + types);
                check.holds(method + " is public alone", method.getModifiers() == Modifier.PUBLIC);
            }
        }
        check.same("methods", String.join(" | ", seen), METHODS);
    }

    private static void fields(Class<?> face) {
        Set<String> seen = new TreeSet<>();
        for (Field field : face.getDeclaredFields()) {
            if (isSeen(field)) {
                seen.add(field.toString());
            }
        }
        check.same("fields", String.join(" | ", seen),
            "public static final int WordRanker.BAD_ARG | public static final int WordRanker.FULL"
            + " | public static final int WordRanker.TOO_FEW");
    }

    private static boolean isSeen(Member member) {
        return !Modifier.isPrivate(member.getModifiers());
    }
}

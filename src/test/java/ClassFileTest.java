import java.io.DataInputStream;
import java.io.IOException;
import java.util.Map;
import java.util.Set;
import java.util.TreeMap;
import java.util.TreeSet;

/**
 * Rules 2 and 3 of LANGUAGE.md, read off the names that the compiled class holds: no class of the
 * library, however it might be written in the source, and no text or fraction.
 */
public final class ClassFileTest {
    private static final Check check = new Check();
    private static final int TEXT = 1;
    private static final int WHOLE = 3;
    private static final int LONG = 5;
    private static final int CLASS = 7;
    private static final int FIELD = 9;
    private static final int METHOD = 10;
    private static final int NAME_AND_TYPE = 12;
    // Among the kinds left out are float, double, String, method handles and what lambdas need.
    private static final Set<Integer> ALLOWED =
        Set.of(TEXT, WHOLE, LONG, CLASS, FIELD, METHOD, NAME_AND_TYPE);

    private final Map<Integer, String> texts = new TreeMap<>();
    private final Map<Integer, int[]> entries = new TreeMap<>();

    public static void main(String[] args) throws IOException {
        ClassFileTest names = new ClassFileTest();
        try (DataInputStream file = new DataInputStream(
                ClassFileTest.class.getResourceAsStream("WordRanker.class"))) {
            names.read(file);
        }
        check.part("classes", names::classes);
        check.part("Object's methods", names::methodsOfObject);
        check.part("types", names::types);
        check.end();
    }

    private void read(DataInputStream file) throws IOException {
        // The first eight bytes are the file's mark and version.
        file.readLong();
        int end = file.readUnsignedShort();
        for (int at = 1; at < end; at++) {
            int kind = file.readUnsignedByte();
            if (!ALLOWED.contains(kind)) {
                // The length of a kind that must not be there is not known here, so the reading ends.
                check.holds("kind " + kind + " of constant is allowed", false);
                return;
            }
            if (kind == TEXT) {
                texts.put(at, file.readUTF());
            } else if (kind == LONG) {
                file.readLong();
                at++;
            } else {
                int first = file.readUnsignedShort();
                entries.put(at, new int[] {kind, first, kind == CLASS ? 0 : file.readUnsignedShort()});
            }
        }
    }

    private String nameOf(int classEntry) {
        return texts.get(entries.get(classEntry)[1]);
    }

    private void classes() {
        Set<String> named = new TreeSet<>();
        entries.forEach((at, entry) -> {
            if (entry[0] == CLASS) {
                named.add(nameOf(at));
            }
        });
        named.removeIf(name -> name.matches("\\[[IJSBCZ]"));
        check.same("classes that are named", named.toString(), "[WordRanker, java/lang/Object]");
    }

    /** Every class calls the constructor of Object; nothing else of it may be called. */
    private void methodsOfObject() {
        Set<String> called = new TreeSet<>();
        for (int[] entry : entries.values()) {
            if ((entry[0] == METHOD || entry[0] == FIELD) && !nameOf(entry[1]).equals("WordRanker")) {
                called.add(nameOf(entry[1]) + "." + texts.get(entries.get(entry[2])[1]));
            }
        }
        check.same("members of other classes", called.toString(), "[java/lang/Object.<init>]");
    }

    private void types() {
        for (int[] entry : entries.values()) {
            if (entry[0] == NAME_AND_TYPE) {
                String type = texts.get(entry[2]);
                check.holds(type + " is of whole numbers and arrays of them",
                    type.matches("\\[?[IJSBCZ]|\\((\\[?[IJSBCZ]){0,7}\\)[IJSBCZV]"));
            }
        }
    }
}

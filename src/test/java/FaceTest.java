import java.lang.reflect.Field;
import java.lang.reflect.Method;
import java.lang.reflect.Modifier;
import java.nio.file.Files;
import java.nio.file.Path;
import java.util.Arrays;
import java.util.Set;
import java.util.TreeSet;

/** The public face, just as the document has it, and the rules of LANGUAGE.md that a text search can see. */
public final class FaceTest {

    private static final String[] FACE = {
        "public boolean LogForward.ahead()",
        "public int LogForward.archive(int)",
        "public int LogForward.at(int,int) throws java.lang.ArrayIndexOutOfBoundsException",
        "public int LogForward.backout(int)",
        "public int LogForward.copy(boolean)",
        "public int LogForward.count(int)",
        "public int LogForward.gap(int)",
        "public int LogForward.merge(int,int)",
        "public int LogForward.recover(int,long)",
        "public int LogForward.row(int,int,long,long)",
        "public int LogForward.sync(int)",
        "public int LogForward.torn(int,int)",
        "public int LogForward.warm()",
        "public long LogForward.get(int) throws java.lang.IllegalArgumentException",
    };

    private static final String[] FORBIDDEN = {
        "->", "::", "Exact(", "finally", "synchronized", "assert ", "static {", "catch", "package ",
        "System.out", "System.nano", "Random", "Thread",
    };

    public static void main(String[] args) throws Exception {
        Set<String> seen = new TreeSet<>();
        for (Method method : LogForward.class.getDeclaredMethods()) {
            if (!Modifier.isPrivate(method.getModifiers()) && !method.isSynthetic()) {
                seen.add(method.toString());
            }
        }
        same("methods", seen, new TreeSet<>(Arrays.asList(FACE)));
        Set<String> fields = new TreeSet<>();
        for (Field field : LogForward.class.getDeclaredFields()) {
            if (!Modifier.isPrivate(field.getModifiers()) && !field.isSynthetic()) {
                fields.add(field.toString());
            }
        }
        same("fields", fields, Set.of("public static final int LogForward.NONE"));
        Check.due("public final", Modifier.isFinal(LogForward.class.getModifiers()), true);
        Check.due("constructors", LogForward.class.getDeclaredConstructors().length, 1);
        Check.due("public constructors", LogForward.class.getConstructors().length, 1);
        Check.due("NONE", LogForward.NONE, -1);
        String source = Files.readString(Path.of("src/main/java/LogForward.java"));
        for (String word : FORBIDDEN) {
            Check.due("the source has " + word, source.contains(word), false);
        }
        Check.end();
    }

    private static void same(String what, Set<String> got, Set<String> want) {
        if (!got.equals(want)) {
            System.out.println(what + " are " + got + ", due are " + want);
        }
        Check.due(what, got.equals(want), true);
    }
}

import java.io.IOException;
import java.lang.reflect.Field;
import java.lang.reflect.Method;
import java.lang.reflect.Modifier;
import java.nio.file.Files;
import java.nio.file.Path;
import java.util.ArrayList;
import java.util.Arrays;
import java.util.List;
import java.util.Set;
import java.util.TreeSet;

/** The public face, just as the document has it, and the rules of LANGUAGE.md that a text search can see. */
public final class FaceTest {

    private static final String[] FACE = {
        "public boolean LogForward.ahead()",
        "public int LogForward.archive(int)",
        "public int LogForward.at(int,int) throws java.lang.ArrayIndexOutOfBoundsException",
        "public int LogForward.backout(int)",
        "public int LogForward.copy(boolean)",
        "public int LogForward.count(int)",
        "public int LogForward.gap(int)",
        "public int LogForward.merge(int,int)",
        "public int LogForward.recover(int,long)",
        "public int LogForward.row(int,int,long,long)",
        "public int LogForward.sync(int)",
        "public int LogForward.torn(int,int)",
        "public int LogForward.warm()",
        "public long LogForward.get(int) throws java.lang.IllegalArgumentException",
    };

    private static final Path DOCUMENT = Path.of("../shared/DOC.md");

    private static final String[] FORBIDDEN = {
        "->", "::", "Exact(", "finally", "synchronized", "assert ", "static {", "catch", "package ",
        "System.out", "System.nano", "Random", "Thread",
    };

    public static void main(String[] args) throws Exception {
        Set<String> seen = new TreeSet<>();
        for (Method method : LogForward.class.getDeclaredMethods()) {
            if (!Modifier.isPrivate(method.getModifiers()) && !method.isSynthetic()) {
                seen.add(method.toString());
            }
        }
        same("methods", seen, new TreeSet<>(Arrays.asList(FACE)));
        dueOwnNames();
        Set<String> fields = new TreeSet<>();
        for (Field field : LogForward.class.getDeclaredFields()) {
            if (!Modifier.isPrivate(field.getModifiers()) && !field.isSynthetic()) {
                fields.add(field.toString());
            }
        }
        same("fields", fields, Set.of("public static final int LogForward.NONE"));
        Check.due("public final", Modifier.isFinal(LogForward.class.getModifiers()), true);
        Check.due("constructors", LogForward.class.getDeclaredConstructors().length, 1);
        Check.due("public constructors", LogForward.class.getConstructors().length, 1);
        Check.due("NONE", LogForward.NONE, -1);
        String source = Files.readString(Path.of("src/main/java/LogForward.java"));
        for (String line : linesOfTheDocument()) {
            Check.due("the source has " + line, source.contains(asWritten(line)), true);
        }
        for (String word : FORBIDDEN) {
            Check.due("the source has " + word, source.contains(word), false);
        }
        Check.end();
    }

    /** Rule 1: the classes inside are static, and no private method bears the name of a public one. */
    private static void dueOwnNames() {
        for (Method method : LogForward.class.getDeclaredMethods()) {
            String begin = " LogForward." + method.getName() + "(";
            boolean ofTheFace = Arrays.stream(FACE).anyMatch(line -> line.contains(begin));
            Check.due(method + " is public", Modifier.isPublic(method.getModifiers()), ofTheFace);
        }
        for (Class<?> inside : LogForward.class.getDeclaredClasses()) {
            Check.due(inside + " is static", Modifier.isStatic(inside.getModifiers()), true);
        }
    }

    /** The lines of the document's face, but for its last brace; none without the document. */
    private static List<String> linesOfTheDocument() throws IOException {
        List<String> lines = new ArrayList<>();
        if (!Files.exists(DOCUMENT)) {
            System.out.println("  no " + DOCUMENT + ": the face is not held against it");
            return lines;
        }
        String document = Files.readString(DOCUMENT);
        int section = document.indexOf("## The public face\n");
        int start = document.indexOf("```java\n", section);
        int end = document.indexOf("```\n", start + 1);
        Check.due("the document has a public face", section >= 0 && start >= 0 && end >= 0, true);
        for (String line : document.substring(Math.max(0, start), Math.max(0, end)).split("\n")) {
            if (line.trim().startsWith("public ")) {
                lines.add(line.trim());
            }
        }
        return lines;
    }

    /** A method or constructor of the document ends by a semicolon, where the source has its body. */
    private static String asWritten(String line) {
        boolean hasBody = line.contains("(") && line.endsWith(";");
        return hasBody ? line.substring(0, line.length() - 1) + " {" : line;
    }

    /** The methods of the document's face by name and parameters, such as "sync(int unit)". */
    static List<String> callsOfTheDocument() throws IOException {
        List<String> calls = new ArrayList<>();
        for (String line : linesOfTheDocument()) {
            String call = line.replaceAll("^public \\w+ (\\w+\\(.*\\)).*;$", "$1");
            if (!call.equals(line)) {
                calls.add(call);
            }
        }
        return calls;
    }

    private static void same(String what, Set<String> got, Set<String> want) {
        if (!got.equals(want)) {
            System.out.println(what + " are " + got + ", due are " + want);
        }
        Check.due(what, got.equals(want), true);
    }
}

import java.io.IOException;
import java.lang.reflect.Field;
import java.lang.reflect.Method;
import java.lang.reflect.Modifier;
import java.nio.file.Files;
import java.nio.file.Path;
import java.util.Arrays;
import java.util.List;
import java.util.Set;
import java.util.TreeSet;
import java.util.regex.Pattern;

/** The public face of the document, its constants, and what of LANGUAGE.md can be seen from outside. */
public final class FaceTest {
    private static final Set<String> FACE = new TreeSet<>(List.of(
        "put(int)", "take(int)", "sleep(int)", "wakeAll()", "leave(int, int)", "set(int, int)", "shuffle(int)",
        "forget()", "ask(int, int)", "walk(boolean)", "frame(int)", "rounds(int)", "type(char)", "clearText()",
        "perform()", "undo()", "keep()", "restore()", "card(int)", "ofCard(int, int)", "told(int)", "total(int)",
        "count(int, int)", "walkTakes(boolean, int)", "roundsTake(int, int)", "bestFrame()", "thickest(int)"));
    private static final Set<String> CONSTANTS =
        new TreeSet<>(List.of("UNKNOWN", "OUT_OF_RANGE", "FULL", "NOT_POSSIBLE", "NONE"));
    /** What the interface says ahead of which calls, in this order. */
    private static final List<String> SECTIONS = List.of(
        "// ---- cards", "put", "take", "sleep", "wakeAll", "leave", "set", "shuffle", "forget",
        "// ---- asking", "ask", "walk", "frame", "rounds",
        "// ---- texts", "type", "clearText", "perform",
        "// ---- history", "undo", "keep", "restore",
        "// ---- what there is", "card", "ofCard", "told", "total", "count",
        "// ---- what would be; nothing changes", "walkTakes", "roundsTake", "bestFrame", "thickest");
    private static final List<String> BANNED = List.of("throw", "throws", "try", "catch", "finally", "synchronized",
        "assert", "import", "package", "protected", "native", "volatile", "transient", "goto");

    /** The path of the source is the argument; without it the project's own is taken. */
    public static void main(String[] args) throws IOException {
        constants();
        members();
        inside();
        String code = Files.readString(Path.of(args.length > 0 ? args[0] : "src/main/java/PocketCards.java"));
        sections(code);
        source(code);
        Checks.end("FaceTest");
    }

    private static void constants() {
        Checks.due("UNKNOWN", PocketCards.UNKNOWN, -1);
        Checks.due("OUT_OF_RANGE", PocketCards.OUT_OF_RANGE, -2);
        Checks.due("FULL", PocketCards.FULL, -3);
        Checks.due("NOT_POSSIBLE", PocketCards.NOT_POSSIBLE, -4);
        Checks.due("NONE", PocketCards.NONE, -5);
    }

    private static void dueTrue(String what, boolean got) {
        Checks.due(what, got ? 1 : 0, 1);
    }

    private static void members() {
        Class<?> face = PocketCards.class;
        dueTrue("the class is public and final", Modifier.isPublic(face.getModifiers())
            && Modifier.isFinal(face.getModifiers()));
        Checks.due("constructors", face.getDeclaredConstructors().length, 1);
        Checks.due("public constructors", face.getConstructors().length, 1);
        Set<String> methods = new TreeSet<>();
        Set<String> names = new TreeSet<>();
        for (Method method : face.getDeclaredMethods()) {
            if (!Modifier.isPrivate(method.getModifiers())) {
                String types = Arrays.toString(method.getParameterTypes());
                methods.add(method.getName() + "(" + types.substring(1, types.length() - 1) + ")");
                names.add(method.getName());
                dueTrue(method + " answers an int", method.getReturnType() == int.class);
            }
        }
        dueTrue("the methods are the face: " + methods, methods.equals(FACE));
        for (Method method : face.getDeclaredMethods()) {
            dueTrue(method + " has a name of its own", Modifier.isPublic(method.getModifiers())
                || !names.contains(method.getName()));
        }
        Set<String> fields = new TreeSet<>();
        for (Field field : face.getDeclaredFields()) {
            if (!Modifier.isPrivate(field.getModifiers())) {
                fields.add(field.getName());
            }
        }
        dueTrue("the fields are the constants: " + fields, fields.equals(CONSTANTS));
    }

    private static void inside() {
        Class<?>[] classes = PocketCards.class.getDeclaredClasses();
        dueTrue("at most twelve classes", classes.length < 12);
        for (Class<?> one : classes) {
            dueTrue(one + " is static", Modifier.isStatic(one.getModifiers()));
            dueTrue(one + " is not shown", !Modifier.isPublic(one.getModifiers())
                && !Modifier.isProtected(one.getModifiers()));
            for (Field field : one.getDeclaredFields()) {
                dueTrue(field + " is no static state", !Modifier.isStatic(field.getModifiers())
                    || Modifier.isFinal(field.getModifiers()));
            }
        }
    }

    private static void sections(String code) {
        Pattern line = Pattern.compile("(?m)^    (?:(// ---- .*)|public int (\\w+)\\(.*)$");
        List<String> got = line.matcher(code).results()
            .map(found -> found.group(1) == null ? found.group(2) : found.group(1)).toList();
        dueTrue("what stands ahead of the calls: " + got, got.equals(SECTIONS));
    }

    private static void source(String code) {
        dueTrue("the source has plain signs", code.chars().allMatch(sign -> sign < 128));
        String bare = code.replaceAll("(?s)/\\*.*?\\*/", " ").replaceAll("//[^\n]*", " ");
        for (String word : BANNED) {
            dueTrue("the source has no '" + word + "'", !Pattern.compile("\\b" + word + "\\b").matcher(bare).find());
        }
        dueTrue("the source has no lambda", !bare.contains("->"));
        dueTrue("the source has no method reference", !bare.contains("::"));
    }
}

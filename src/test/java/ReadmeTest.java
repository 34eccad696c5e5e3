import java.io.File;
import java.io.IOException;
import java.lang.reflect.Field;
import java.lang.reflect.Method;
import java.lang.reflect.Modifier;
import java.nio.file.Files;
import java.nio.file.Path;
import java.util.ArrayList;
import java.util.Comparator;
import java.util.List;
import java.util.Set;
import java.util.TreeSet;
import java.util.regex.MatchResult;
import java.util.regex.Matcher;
import java.util.regex.Pattern;
import java.util.stream.Collectors;
import java.util.stream.Stream;

/** README.md: its example, compiled and run by its own commands, gives its answers; its tables name the whole face. */
public final class ReadmeTest {
    private static final Path SOURCE = Path.of("src/main/java/PocketCards.java");
    private static final Pattern PRINTED = Pattern.compile("System\\.out\\.println\\(.*\\);\\s*// (-?\\d+)\\b");
    private static final Pattern CONSTANT = Pattern.compile("(?m)^\\| `(\\w+)` \\| (-?\\d+) \\|");
    private static final Pattern CALL = Pattern.compile("(?m)^\\| `(\\w+)\\(([^)]*)\\)` \\|");

    /** The path of the text is the argument; without it the project's own is taken. */
    public static void main(String[] args) throws IOException, InterruptedException {
        String text = Files.readString(Path.of(args.length > 0 ? args[0] : "README.md"));
        example(block(text, "java"), block(text, "sh"));
        constants(text);
        calls(text);
        tests(text);
        Checks.end("ReadmeTest");
    }

    private static void dueTrue(String what, boolean got) {
        Checks.due(what, got ? 1 : 0, 1);
    }

    /** The lines of the first block of a kind; there is to be one. */
    private static String block(String text, String kind) {
        Matcher block = Pattern.compile("(?s)\n```" + kind + "\n(.*?)\n```\n").matcher(text);
        boolean isThere = block.find();
        dueTrue("there is a block of the kind " + kind, isThere);
        return isThere ? block.group(1) : "";
    }

    private static List<String> due(String example) {
        List<String> answers = PRINTED.matcher(example).results().map(found -> found.group(1)).toList();
        long printed = Pattern.compile("System\\.out\\.print").matcher(example).results().count();
        Checks.due("printed answers that are told", answers.size(), printed);
        dueTrue("there are some answers", !answers.isEmpty());
        return answers;
    }

    private static void example(String example, String commands) throws IOException, InterruptedException {
        Checks.sentence("README: a short example whose answers are those that the class gives");
        List<String> want = due(example);
        Path folder = Files.createTempDirectory("readme");
        try {
            Path copy = folder.resolve(SOURCE);
            Files.createDirectories(copy.getParent());
            Files.copy(SOURCE, copy);
            Files.writeString(folder.resolve("Example.java"), example);
            List<String> got = new ArrayList<>();
            Checks.due("the exit code of the commands", run(folder, commands, got), 0);
            Checks.due("lines of the example", got.size(), want.size());
            for (int i = 0; i < want.size() && i < got.size(); i++) {
                dueTrue("answer " + i + " of the example is " + got.get(i) + ", told is " + want.get(i),
                    got.get(i).equals(want.get(i)));
            }
        } finally {
            remove(folder);
        }
    }

    private static int run(Path folder, String commands, List<String> lines) throws IOException, InterruptedException {
        ProcessBuilder shell = new ProcessBuilder("sh", "-e", "-c", commands).directory(folder.toFile());
        shell.redirectInput(new File("/dev/null")).redirectError(ProcessBuilder.Redirect.INHERIT);
        Process process = shell.start();
        lines.addAll(new String(process.getInputStream().readAllBytes()).lines().toList());
        return process.waitFor();
    }

    private static void remove(Path folder) throws IOException {
        try (Stream<Path> paths = Files.walk(folder)) {
            for (Path path : paths.sorted(Comparator.reverseOrder()).toList()) {
                Files.delete(path);
            }
        }
    }

    private static void constants(String text) {
        Checks.sentence("README: what errors and NONE are");
        Set<String> got = new TreeSet<>();
        CONSTANT.matcher(text).results().forEach(row -> got.add(row.group(1) + "=" + row.group(2)));
        Set<String> want = new TreeSet<>();
        for (Field field : PocketCards.class.getFields()) {
            want.add(field.getName() + "=" + valueOf(field));
        }
        dueTrue("the constants of the table " + got + " are " + want, got.equals(want));
    }

    private static int valueOf(Field field) {
        try {
            return field.getInt(null);
        } catch (IllegalAccessException hidden) {
            throw new IllegalStateException(hidden);
        }
    }

    private static void calls(String text) {
        Checks.sentence("README: how to use the class");
        List<String> got = CALL.matcher(text).results().map(ReadmeTest::call).sorted().toList();
        List<String> want = new ArrayList<>();
        for (Method method : PocketCards.class.getDeclaredMethods()) {
            if (Modifier.isPublic(method.getModifiers())) {
                want.add(method.getName() + " of " + method.getParameterCount());
            }
        }
        want.sort(Comparator.naturalOrder());
        dueTrue("the calls of the tables " + got + " are " + want, got.equals(want));
    }

    private static String call(MatchResult row) {
        String arguments = row.group(2);
        return row.group(1) + " of " + (arguments.isEmpty() ? 0 : arguments.split(", ").length);
    }

    private static void tests(String text) throws IOException {
        Checks.sentence("README: how to run its tests");
        dueTrue("its command is there", text.contains("\n    .ci/run\n") && Files.isExecutable(Path.of(".ci/run")));
        Set<String> got = Pattern.compile("`(\\w+Test)`").matcher(text).results().map(found -> found.group(1))
            .collect(Collectors.toCollection(TreeSet::new));
        try (Stream<Path> files = Files.list(Path.of("src/test/java"))) {
            Set<String> want = files.map(file -> file.getFileName().toString())
                .filter(name -> name.endsWith("Test.java")).map(name -> name.replace(".java", ""))
                .collect(Collectors.toCollection(TreeSet::new));
            dueTrue("the tests that it names " + got + " are " + want, got.equals(want));
        }
    }
}

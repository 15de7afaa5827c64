import java.io.ByteArrayOutputStream;
import java.io.IOException;
import java.io.PrintStream;
import java.lang.reflect.Field;
import java.lang.reflect.Modifier;
import java.net.URL;
import java.net.URLClassLoader;
import java.nio.file.Files;
import java.nio.file.Path;
import java.util.Set;
import java.util.TreeSet;
import java.util.regex.Matcher;
import java.util.regex.Pattern;
import java.util.stream.Collectors;
import java.util.stream.Stream;
import javax.tools.JavaCompiler;
import javax.tools.ToolProvider;

/** README.md: its example prints what it says, and its tables leave nothing out. */
public final class ReadmeTest {
    private static final Check check = new Check("ReadmeTest");

    public static void main(String[] args) throws Exception {
        String readme = Files.readString(Path.of("README.md"));
        example(readme);
        calls(readme);
        constants(readme);
        tests(readme);
        commands(readme);
        check.end();
    }

    /** What stands in the first block of this kind. */
    private static String block(String readme, String kind) {
        Matcher block = Pattern.compile("(?s)\n```" + kind + "\n(.*?)```\n").matcher(readme);
        boolean found = block.find();
        check.holds("there is a block of " + kind, found);
        return found ? block.group(1) : "";
    }

    // ---- how to use the class

    private static void example(String readme) throws Exception {
        check.topic("example");
        Path folder = Files.createDirectories(Path.of("build", "readme"));
        Path source = folder.resolve("Example.java");
        Files.writeString(source, block(readme, "java"));
        JavaCompiler compiler = ToolProvider.getSystemJavaCompiler();
        check.holds("there is a compiler", compiler != null);
        check.due("javac", compiler.run(null, null, null, "-d", folder.toString(), "-cp",
                System.getProperty("java.class.path"), source.toString()), 0);
        String printed = printed(folder);
        check.holds("it prints what the page says, not:\n" + printed,
                printed.equals(block(readme, "text")));
    }

    private static String printed(Path folder) throws Exception {
        PrintStream out = System.out;
        ByteArrayOutputStream bytes = new ByteArrayOutputStream();
        try (URLClassLoader loader = new URLClassLoader(new URL[] {folder.toUri().toURL()})) {
            System.setOut(new PrintStream(bytes, true));
            loader.loadClass("Example").getMethod("main", String[].class)
                    .invoke(null, (Object) new String[0]);
        } finally {
            System.setOut(out);
        }
        return bytes.toString().replace(System.lineSeparator(), "\n");
    }

    private static void calls(String readme) {
        check.topic("calls");
        Matcher row = Pattern.compile("(?m)^\\| `(\\w+)\\(([^)]*)\\)`( \\*)? \\|").matcher(readme);
        int next = 0;
        while (row.find()) {
            String name = row.group(1);
            check.due("the place of " + name + " in the face", Calls.numberOf(name), next);
            int arguments = row.group(2).isEmpty() ? 0 : row.group(2).split(", ").length;
            check.due("arguments of " + name, arguments, Calls.ARGUMENTS[next]);
            check.holds(name + " is marked as one that can be undone, if it can",
                    (row.group(3) != null) == canBeUndone(next));
            next++;
        }
        check.due("calls in the table", next, Calls.NAMES.length);
    }

    /** Whether the call records a state; the machine has four recorded ones ahead of it. */
    private static boolean canBeUndone(int call) {
        MarbleHeirs x = Calls.machine("come 0 0; come 1 1; write r1g1b1; pour; round; save;"
                + " write k9");
        int answer = Calls.answer(x, call, call == 21 ? 'r' : 0, call == 6 ? 1 : 0, 1, 0);
        check.holds(Calls.NAMES[call] + " is answered without an error",
                answer >= 0 || answer == MarbleHeirs.NONE);
        return Check.recorded(x) > 4;
    }

    private static void constants(String readme) throws IllegalAccessException {
        check.topic("constants");
        for (Field field : MarbleHeirs.class.getFields()) {
            if (Modifier.isStatic(field.getModifiers())) {
                String row = "| `" + field.getName() + "` | " + field.getInt(null) + " |";
                String words = "`" + field.getName() + "`, " + field.getInt(null) + ",";
                check.holds(field.getName() + " is told with its number",
                        readme.contains(row) || readme.contains(words));
            }
        }
    }

    // ---- how to run its tests

    private static void tests(String readme) throws IOException {
        check.topic("tests");
        Set<String> told = new TreeSet<>();
        Matcher row = Pattern.compile("(?m)^\\| `(\\w+Test)` \\|").matcher(readme);
        while (row.find()) {
            told.add(row.group(1));
        }
        try (Stream<Path> files = Files.list(Path.of("src/test/java"))) {
            Set<String> written = files.map(file -> file.getFileName().toString())
                    .filter(name -> name.endsWith("Test.java"))
                    .map(name -> name.substring(0, name.length() - ".java".length()))
                    .collect(Collectors.toCollection(TreeSet::new));
            check.holds("the tests are " + written + ", not " + told, written.equals(told));
        }
    }

    private static void commands(String readme) {
        check.topic("commands");
        check.holds("it says how to run the tests", readme.contains("\nsh .ci/run\n"));
        check.holds(".ci/run is executable", Files.isExecutable(Path.of(".ci", "run")));
        Matcher file = Pattern.compile("[\\w./*]+\\.(java|md)\\b").matcher(readme);
        while (file.find()) {
            String path = file.group();
            check.holds(path + " is there", path.equals("Example.java") || path.contains("*")
                    || Files.exists(Path.of(path)));
        }
    }
}

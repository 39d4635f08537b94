import java.io.IOException;
import java.lang.reflect.Method;
import java.lang.reflect.Modifier;
import java.net.URL;
import java.net.URLClassLoader;
import java.nio.file.Files;
import java.nio.file.Path;
import java.util.ArrayList;
import java.util.Comparator;
import java.util.List;
import java.util.Set;
import java.util.TreeSet;
import java.util.regex.Matcher;
import java.util.regex.Pattern;
import java.util.stream.Stream;
import javax.tools.JavaCompiler;
import javax.tools.ToolProvider;

/** That README.md is true: what it shows compiles and answers so, and it names the tests that there are. */
public final class ReadmeTest {
    private static final Check CHECK = new Check();
    private static final Pattern BLOCK = Pattern.compile("(?ms)^```java$(.*?)^```$");
    /** A line that shows an answer: a call, a comment that begins with a number. */
    private static final Pattern SHOWN = Pattern.compile("(x\\.(\\w+)\\(.*\\));\\s*// (-?\\d+)(?::.*)?");
    private static final Pattern ANY_CALL = Pattern.compile("\\bx\\.(\\w+)\\(");

    public static void main(String[] args) throws IOException, ReflectiveOperationException {
        Path root = Path.of(args[0]).toAbsolutePath().normalize().getParent().getParent().getParent().getParent();
        String page = Files.readString(root.resolve("README.md"));
        answersAreThoseThatItShows(javaOf(page));
        everyCallIsShown(javaOf(page));
        answersByName(page);
        testsAreNamed(root, page);
        commandIsThere(root, page);
        CHECK.close("ReadmeTest");
    }

    private static String javaOf(String page) {
        StringBuilder all = new StringBuilder();
        Matcher blocks = BLOCK.matcher(page);
        while (blocks.find()) {
            all.append(blocks.group(1));
        }
        return all.toString();
    }

    /** The page's own lines, compiled as they stand but for the calls with an answer, which is put in a list. */
    private static void answersAreThoseThatItShows(String code) throws IOException, ReflectiveOperationException {
        StringBuilder program = new StringBuilder("public final class Shown {\n"
            + "    public static void run(java.util.List<Long> got) {\n");
        List<String> calls = new ArrayList<>();
        List<Long> wanted = new ArrayList<>();
        for (String line : code.split("\n")) {
            Matcher shown = SHOWN.matcher(line.strip());
            if (shown.matches()) {
                calls.add(shown.group(1));
                wanted.add(Long.valueOf(shown.group(3)));
                program.append("got.add((long) ").append(shown.group(1)).append(");\n");
            } else {
                CHECK.that("a comment on README.md tells an answer: " + line, !line.contains("//"));
                program.append(line).append('\n');
            }
        }
        program.append("    }\n}\n");
        List<Long> got = compileAndRun(program.toString());
        CHECK.due("answers of README.md", got.size(), wanted.size());
        for (int i = 0; i < got.size(); i++) {
            CHECK.due("README.md, line " + (i + 1) + " with an answer: " + calls.get(i), got.get(i), wanted.get(i));
        }
    }

    private static List<Long> compileAndRun(String program) throws IOException, ReflectiveOperationException {
        List<Long> got = new ArrayList<>();
        Path dir = Files.createTempDirectory("readme");
        try {
            Path file = Files.writeString(dir.resolve("Shown.java"), program);
            JavaCompiler compiler = ToolProvider.getSystemJavaCompiler();
            int failed = compiler.run(null, null, null, "-cp", System.getProperty("java.class.path"),
                "-d", dir.toString(), file.toString());
            CHECK.due("README.md: javac's exit code", failed, 0);
            if (failed == 0) {
                try (URLClassLoader loader = new URLClassLoader(new URL[] {dir.toUri().toURL()})) {
                    loader.loadClass("Shown").getMethod("run", List.class).invoke(null, got);
                }
            }
        } finally {
            remove(dir);
        }
        return got;
    }

    private static void remove(Path dir) throws IOException {
        List<Path> paths;
        try (Stream<Path> walk = Files.walk(dir)) {
            paths = walk.sorted(Comparator.reverseOrder()).toList();
        }
        for (Path path : paths) {
            Files.delete(path);
        }
    }

    private static void everyCallIsShown(String code) {
        Set<String> shown = new TreeSet<>();
        Matcher calls = ANY_CALL.matcher(code);
        int many = 0;
        while (calls.find()) {
            shown.add(calls.group(1));
            many++;
        }
        for (Method m : WheelTickets.class.getDeclaredMethods()) {
            if (Modifier.isPublic(m.getModifiers())) {
                CHECK.that("README.md shows a call of " + m.getName(), shown.contains(m.getName()));
            }
        }
        CHECK.that("the run on README.md is of some calls", many > 34);
    }

    private static void answersByName(String page) {
        CHECK.that("BAD on README.md", page.contains("| `BAD` " + WheelTickets.BAD + " |"));
        CHECK.that("STATE on README.md", page.contains("| `STATE` " + WheelTickets.STATE + " |"));
        CHECK.that("FULL on README.md", page.contains("| `FULL` " + WheelTickets.FULL + " |"));
        CHECK.that("NONE on README.md", page.contains("| `NONE` " + WheelTickets.NONE + " |"));
    }

    /** .ci/run runs what is called *Test.java: so no other file may have a main method. */
    private static void testsAreNamed(Path root, String page) throws IOException {
        Path tests = root.resolve("src/test/java");
        List<Path> files;
        try (Stream<Path> list = Files.list(tests)) {
            files = list.sorted().toList();
        }
        for (Path file : files) {
            String name = file.getFileName().toString();
            boolean isTest = name.endsWith("Test.java");
            CHECK.that(name + " has a main method, if and only if it is called a test",
                isTest == Files.readString(file).contains("public static void main(String[] args)"));
            String said = name.replace(".java", "");
            CHECK.that("README.md names " + said, Pattern.compile("\\b" + said + "\\b").matcher(page).find());
        }
        Matcher named = Pattern.compile("`(?:src/test/java/)?(\\w+Test)(?:\\.java)?`").matcher(page);
        while (named.find()) {
            boolean isPattern = named.group(1).equals("SomethingTest");
            CHECK.that(named.group(1) + ", named on README.md, is there",
                isPattern || Files.exists(tests.resolve(named.group(1) + ".java")));
        }
    }

    private static void commandIsThere(Path root, String page) throws IOException {
        CHECK.that("README.md names the command", page.contains("\n    .ci/run\n"));
        Path script = root.resolve(".ci/run");
        CHECK.that(".ci/run can be run", Files.isExecutable(script));
        String lines = Files.readString(script);
        CHECK.that(".ci/run goes over all tests of the project", lines.contains("\"$root\"/src/test/java/*Test.java"));
        CHECK.that(".ci/run goes over all shared tests", lines.contains("\"$shared\"/*.java"));
    }
}

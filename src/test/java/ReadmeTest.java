import java.io.IOException;
import java.io.UncheckedIOException;
import java.net.URL;
import java.net.URLClassLoader;
import java.nio.file.Files;
import java.nio.file.Path;
import java.util.ArrayList;
import java.util.Comparator;
import java.util.List;
import java.util.Set;
import java.util.TreeSet;
import java.util.regex.Matcher;
import java.util.regex.Pattern;
import java.util.stream.Stream;
import javax.tools.ToolProvider;

/** What README.md says: its example with each answer, its command, and its list of the tests. */
public final class ReadmeTest {
    private static final Path PAGE = Path.of("README.md");
    private static final Path TESTS = Path.of("src/test/java");
    private static final Path CLASS = Path.of("src/main/java/SoficShift.java");
    // A call with the answer as the first thing in its comment.
    private static final Pattern TOLD = Pattern.compile("(?:int (\\w+) = )?(shift\\.\\w+\\([^;]*\\));\\s*// (-?\\d+)\\b.*");

    private static int wrong = 0;

    public static void main(String[] args) throws Exception {
        List<String> page = Files.readAllLines(PAGE);
        Path scratch = Files.createTempDirectory("readme");
        try {
            example(block(page, "java"), scratch);
            command(block(page, "sh"), scratch);
        } finally {
            removeTree(scratch);
        }
        listOfTests(page);
        check(Files.isExecutable(Path.of(".ci/run")), ".ci/run cannot be run");
        System.out.println(wrong == 0 ? "README.md holds" : wrong + " faults of README.md");
        if (wrong != 0) {
            System.exit(1);
        }
    }

    private static void check(boolean holds, String fault) {
        if (!holds) {
            wrong++;
            System.out.println(fault);
        }
    }

    private static List<String> block(List<String> page, String language) {
        int start = page.indexOf("```" + language);
        check(start >= 0, "README.md has no block of " + language);
        List<String> lines = new ArrayList<>();
        for (int i = start + 1; start >= 0 && i < page.size() && !page.get(i).equals("```"); i++) {
            lines.add(page.get(i));
        }
        return lines;
    }

    /** Compiles the example as it stands, each told answer followed by a comparison, and runs it. */
    private static void example(List<String> lines, Path scratch) throws Exception {
        StringBuilder source = new StringBuilder("public final class ReadmeExample {\n"
                + "static void due(String call, long got, long want) {\n"
                + "if (got != want) { throw new IllegalStateException(call + \" answered \" + got + \", not \" + want); } }\n"
                + "public static void run() {\n");
        int told = 0;
        for (String line : lines) {
            Matcher matcher = TOLD.matcher(line);
            if (matcher.matches()) {
                told++;
                String name = matcher.group(1);
                String quoted = "\"" + matcher.group(2) + "\"";
                source.append(name == null ? "" : line + "\n");
                String got = name == null ? matcher.group(2) : name;
                source.append("due(" + quoted + ", " + got + ", " + matcher.group(3) + "L);\n");
            } else {
                check(!line.startsWith("shift."), "no answer is told: " + line);
                source.append(line).append('\n');
            }
        }
        source.append("}}\n");
        check(told >= 10, "the example tells " + told + " answers alone");
        Path file = Files.writeString(scratch.resolve("ReadmeExample.java"), source);
        int code = ToolProvider.getSystemJavaCompiler().run(null, null, null, "-d", scratch.toString(), file.toString(),
                CLASS.toString());
        check(code == 0, "the example does not compile");
        if (code == 0) {
            runExample(scratch);
        }
    }

    private static void runExample(Path scratch) throws Exception {
        URL[] places = {scratch.toUri().toURL()};
        try (URLClassLoader loader = new URLClassLoader(places, null)) {
            loader.loadClass("ReadmeExample").getMethod("run").invoke(null);
        } catch (java.lang.reflect.InvocationTargetException e) {
            check(false, "the example: " + e.getCause());
        }
    }

    /** Runs the command in a copy of the sources, so that the checkout stays as it is. */
    private static void command(List<String> lines, Path scratch) throws Exception {
        Path copy = Files.createDirectory(scratch.resolve("copy"));
        for (Path file : sources()) {
            Path place = copy.resolve(file);
            Files.createDirectories(place.getParent());
            Files.copy(file, place);
        }
        check(!lines.isEmpty(), "README.md tells no command");
        for (String line : lines) {
            int code = new ProcessBuilder("sh", "-c", line).directory(copy.toFile()).redirectErrorStream(true)
                    .redirectOutput(scratch.resolve("told").toFile()).start().waitFor();
            check(code == 0, "exit code " + code + ": " + line + "\n" + Files.readString(scratch.resolve("told")));
        }
    }

    private static List<Path> sources() throws IOException {
        List<Path> all = new ArrayList<>(List.of(CLASS));
        try (Stream<Path> files = Files.list(TESTS)) {
            files.forEach(all::add);
        }
        return all;
    }

    private static void listOfTests(List<String> page) throws IOException {
        Set<String> listed = new TreeSet<>();
        Matcher matcher = Pattern.compile("(?m)^- `(\\w+)`:").matcher(String.join("\n", page));
        while (matcher.find()) {
            listed.add(matcher.group(1));
        }
        Set<String> present = new TreeSet<>();
        for (Path file : sources()) {
            present.add(file.getFileName().toString().replace(".java", ""));
        }
        present.remove("SoficShift");
        check(listed.equals(present), "README.md lists " + listed + ", but there are " + present);
    }

    private static void removeTree(Path root) throws IOException {
        try (Stream<Path> files = Files.walk(root)) {
            files.sorted(Comparator.reverseOrder()).forEach(ReadmeTest::remove);
        }
    }

    private static void remove(Path file) {
        try {
            Files.delete(file);
        } catch (IOException e) {
            throw new UncheckedIOException(e);
        }
    }
}

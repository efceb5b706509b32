import java.io.IOException;
import java.lang.reflect.InvocationTargetException;
import java.lang.reflect.Method;
import java.net.URL;
import java.net.URLClassLoader;
import java.nio.file.DirectoryStream;
import java.nio.file.Files;
import java.nio.file.Path;
import java.util.ArrayList;
import java.util.List;
import java.util.regex.Matcher;
import java.util.regex.Pattern;

/**
 * README.md is true: each line of its examples is compiled and run as it stands there, and must answer what
 * stands behind it; its lists name every method of the face and every test.
 */
public final class ReadmeTest {
    private static final Path README = Path.of("README.md");
    private static final Path TESTS = Path.of("src/test/java");
    private static final String BEGIN = "PathDecoder x = new PathDecoder();";
    /** A call, with what its answer is called if that is kept, and what it answers. */
    private static final Pattern LINE = Pattern.compile("(?:int (\\w+) = )?(x\\.\\w+\\(.*\\)); +// ([^:]+)(?::.*)?");

    /** The example lines in order, what stands behind each, and the class that runs them. */
    private final List<String> calls = new ArrayList<>();
    private final List<String> wants = new ArrayList<>();
    private final StringBuilder source = new StringBuilder();

    public static void main(String[] args) throws IOException, InterruptedException, ReflectiveOperationException {
        ReadmeTest test = new ReadmeTest();
        test.readExamples();
        test.runExamples();
        namesAllMethods();
        namesAllTests();
        Checks.finish("ReadmeTest");
    }

    private void readExamples() throws IOException {
        source.append("public final class ReadmeLines { public static void run(java.util.List<String> got) {\n");
        boolean isExample = false;
        for (String line : Files.readAllLines(README)) {
            if (line.startsWith("```")) {
                source.append(line.equals("```java") ? "{\n" : isExample ? "}\n" : "");
                isExample = line.equals("```java");
            } else if (isExample) {
                readLine(line);
            }
        }
        source.append("} }\n");
        Checks.due("there are examples", calls.size() > 50, true);
    }

    private void readLine(String line) {
        Matcher parts = LINE.matcher(line);
        if (line.equals(BEGIN)) {
            source.append(line).append('\n');
        } else if (parts.matches()) {
            calls.add("README.md: " + line);
            wants.add(parts.group(3));
            source.append(parts.group(1) == null ? asked(parts.group(2)) : kept(parts.group(1), parts.group(2)));
        } else {
            Checks.dueText("README.md", line, "a call with its answer");
        }
    }

    private static String asked(String call) {
        return "try { got.add(String.valueOf(" + call + ")); }"
                + " catch (RuntimeException e) { got.add(\"throws \" + e.getClass().getSimpleName()); }\n";
    }

    private static String kept(String name, String call) {
        return "int " + name + " = " + call + "; got.add(String.valueOf(" + name + "));\n";
    }

    private void runExamples() throws IOException, InterruptedException, ReflectiveOperationException {
        Path made = Files.createTempDirectory("readme");
        Path file = made.resolve("ReadmeLines.java");
        try {
            Files.writeString(file, source);
            Process javac = new ProcessBuilder("javac", "-cp", System.getProperty("java.class.path"), "-d",
                    made.toString(), file.toString()).inheritIO().start();
            int failed = javac.waitFor();
            Checks.due("javac of the examples", failed, 0);
            if (failed == 0) {
                compareWith(made);
            }
        } finally {
            Files.deleteIfExists(made.resolve("ReadmeLines.class"));
            Files.deleteIfExists(file);
            Files.deleteIfExists(made);
        }
    }

    private void compareWith(Path made) throws IOException, ReflectiveOperationException {
        List<String> got = new ArrayList<>();
        try (URLClassLoader loader = new URLClassLoader(new URL[] {made.toUri().toURL()})) {
            loader.loadClass("ReadmeLines").getMethod("run", List.class).invoke(null, got);
        } catch (InvocationTargetException e) {
            Checks.dueText("an example whose answer is kept", String.valueOf(e.getCause()), "no exception");
        }
        Checks.due("lines that were run", got.size(), calls.size());
        for (int i = 0; i < got.size(); i++) {
            Checks.dueText(calls.get(i), got.get(i), wants.get(i));
        }
    }

    private static void namesAllMethods() throws IOException {
        String text = Files.readString(README);
        for (Method m : PathDecoder.class.getMethods()) {
            boolean isOfFace = m.getDeclaringClass() == PathDecoder.class;
            boolean isNamed = text.contains("`" + m.getName() + "(") && text.contains("x." + m.getName() + "(");
            Checks.due("README.md tells of " + m.getName() + "() and shows it", !isOfFace || isNamed, true);
        }
    }

    private static void namesAllTests() throws IOException {
        String text = Files.readString(README);
        try (DirectoryStream<Path> tests = Files.newDirectoryStream(TESTS, "*Test.java")) {
            for (Path test : tests) {
                String name = test.getFileName().toString().replace(".java", "");
                Checks.due("README.md names " + name, text.contains("`" + name + "`"), true);
            }
        }
    }
}

import java.io.IOException;
import java.lang.reflect.Method;
import java.lang.reflect.Modifier;
import java.net.URL;
import java.net.URLClassLoader;
import java.nio.file.Files;
import java.nio.file.Path;
import java.util.ArrayList;
import java.util.List;
import java.util.regex.Matcher;
import java.util.regex.Pattern;
import java.util.stream.Stream;
import javax.tools.ToolProvider;

/** README.md: its examples answer what it says, and it names every call and every test. */
public final class ReadmeTest {
    private static final Pattern BLOCK = Pattern.compile("(?s)```java\\n(.*?)```");
    /** A call, and its answer in the comment behind it. */
    private static final Pattern ANSWER = Pattern.compile("^\\s*(x\\.\\w+\\(.*\\));\\s*// (-?\\d+)(?::.*)?$");

    private ReadmeTest() {
    }

    public static void main(String[] args) throws Exception {
        String page = Files.readString(Path.of("README.md"));
        namesCalls(page);
        namesTests(page);
        runExamples(page);
        Check.finish();
    }

    private static void holds(String what, boolean so) {
        Check.due("README.md", what, so ? 1 : 0, 1);
    }

    private static void namesCalls(String page) {
        for (Method method : DeafAuction.class.getDeclaredMethods()) {
            if (Modifier.isPublic(method.getModifiers())) {
                Matcher row = Pattern.compile("(?m)^\\|.*`" + method.getName() + "\\(([^)]*)\\)`.*\\|$").matcher(page);
                boolean found = row.find();
                holds("names " + method.getName(), found);
                int told = !found || row.group(1).isEmpty() ? 0 : row.group(1).split(",").length;
                Check.due("README.md", "parameters of " + method.getName(), told, method.getParameterCount());
            }
        }
    }

    private static void namesTests(String page) throws IOException {
        try (Stream<Path> files = Files.list(Path.of("src/test/java"))) {
            for (Path file : files.sorted().toList()) {
                String name = file.getFileName().toString().replace(".java", "");
                holds("names " + name, !name.endsWith("Test") || page.contains("| `" + name + "` |"));
            }
        }
    }

    /** All examples, one behind the other, as one program that lists each call, its answer, and the one told. */
    private static String programOf(String page) {
        List<String> lines = new ArrayList<>();
        lines.add("public final class ReadmeExamples {");
        lines.add("public static java.util.List<Object[]> run() {");
        lines.add("java.util.List<Object[]> told = new java.util.ArrayList<>();");
        Matcher block = BLOCK.matcher(page);
        while (block.find()) {
            for (String line : block.group(1).split("\n")) {
                Matcher answer = ANSWER.matcher(line);
                boolean tells = answer.matches();
                holds("tells an answer: " + line, tells || !line.trim().startsWith("x."));
                lines.add(tells ? "told.add(new Object[] {\"" + answer.group(1) + "\", (long) "
                        + answer.group(1) + ", " + answer.group(2) + "L});" : line);
            }
        }
        lines.add("return told;");
        lines.add("}");
        lines.add("}");
        return String.join("\n", lines);
    }

    private static void runExamples(String page) throws Exception {
        Path folder = Files.createTempDirectory("readme");
        Path source = folder.resolve("ReadmeExamples.java");
        try {
            Files.writeString(source, programOf(page));
            int code = ToolProvider.getSystemJavaCompiler().run(null, null, null,
                    "-cp", System.getProperty("java.class.path"), "-d", folder.toString(), source.toString());
            Check.due("README.md", "its examples compile", code, 0);
            if (code == 0) {
                lookAt(folder);
            }
        } finally {
            Files.deleteIfExists(source);
            Files.deleteIfExists(folder.resolve("ReadmeExamples.class"));
            Files.deleteIfExists(folder);
        }
    }

    private static void lookAt(Path folder) throws Exception {
        try (URLClassLoader loader = new URLClassLoader(new URL[] {folder.toUri().toURL()})) {
            List<?> told = (List<?>) loader.loadClass("ReadmeExamples").getMethod("run").invoke(null);
            holds("has examples", !told.isEmpty());
            for (Object one : told) {
                Object[] row = (Object[]) one;
                Check.due("README.md", (String) row[0], (Long) row[1], (Long) row[2]);
            }
        }
    }
}

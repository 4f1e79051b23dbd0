import java.io.IOException;
import java.lang.reflect.Method;
import java.lang.reflect.Modifier;
import java.net.URL;
import java.net.URLClassLoader;
import java.nio.file.Files;
import java.nio.file.Path;
import java.util.ArrayList;
import java.util.List;
import java.util.regex.Matcher;
import java.util.regex.Pattern;
import java.util.stream.Stream;
import javax.tools.ToolProvider;

/**
 * The examples of README.md: each is compiled as it stands there, but that the answer of a call is compared with the
 * one behind it, and run. Every method of the face must be in one of them.
 */
public final class ReadmeTest {
    private static final Path PAGE = Path.of("README.md");
    private static final Pattern EXAMPLE = Pattern.compile("(?s)```java\n(.*?)```");
    private static final Pattern CALL = Pattern.compile("(papers\\.\\w+\\(.*\\));\\s*// ([A-Z]+|-?\\d+|'.')(: .+)?");

    private static int wrong = 0;
    private static int answers = 0;

    /** Called by the examples, too. */
    public static void due(String call, int got, int want) {
        answers++;
        if (got != want) {
            wrong++;
            System.out.println(call + " answered " + got + ", README.md says " + want);
        }
    }

    public static void main(String[] args) throws Exception {
        String page = Files.readString(PAGE);
        namesAll(page);
        List<String> examples = new ArrayList<>();
        Matcher example = EXAMPLE.matcher(page);
        while (example.find()) {
            examples.add(compared(example.group(1)));
        }
        Path out = Files.createTempDirectory("readme");
        try {
            run(out, examples);
        } finally {
            remove(out);
        }
        if (wrong != 0 || examples.isEmpty()) {
            System.exit(1);
        }
        System.out.println(examples.size() + " examples of README.md hold in " + answers + " answers");
    }

    private static void namesAll(String page) {
        for (Method m : BoxedPapers.class.getDeclaredMethods()) {
            if (Modifier.isPublic(m.getModifiers()) && !page.contains("papers." + m.getName() + "(")) {
                wrong++;
                System.out.println("README.md has no example of " + m.getName());
            }
        }
    }

    /** Only what stands further in, in a loop, may be without an answer. */
    private static String compared(String example) {
        StringBuilder code = new StringBuilder();
        for (String line : example.split("\n")) {
            Matcher call = CALL.matcher(line);
            if (call.matches()) {
                String name = call.group(1).replace("\\", "\\\\").replace("\"", "\\\"");
                String want = call.group(2).matches("[A-Z]+") ? "BoxedPapers." + call.group(2) : call.group(2);
                code.append("ReadmeTest.due(\"").append(name).append("\", ").append(call.group(1)).append(", ")
                        .append(want).append(");\n");
            } else if (line.startsWith("papers.")) {
                wrong++;
                System.out.println("README.md has a call without an answer: " + line);
            } else {
                code.append(line).append('\n');
            }
        }
        return code.toString();
    }

    private static void run(Path out, List<String> examples) throws Exception {
        StringBuilder source = new StringBuilder("public final class ReadmeExamples {\n");
        for (int k = 0; k < examples.size(); k++) {
            source.append("public static void example").append(k).append("() {\n").append(examples.get(k)).append("}\n");
        }
        Path file = out.resolve("ReadmeExamples.java");
        Files.writeString(file, source.append("}\n"));
        int failed = ToolProvider.getSystemJavaCompiler().run(null, null, null, "--release", "17", "-classpath",
                System.getProperty("java.class.path"), "-d", out.toString(), file.toString());
        if (failed != 0) {
            wrong++;
            return;
        }
        try (URLClassLoader loader = new URLClassLoader(new URL[] {out.toUri().toURL()})) {
            Class<?> made = loader.loadClass("ReadmeExamples");
            for (int k = 0; k < examples.size(); k++) {
                made.getMethod("example" + k).invoke(null);
            }
        }
    }

    private static void remove(Path out) throws IOException {
        try (Stream<Path> files = Files.list(out)) {
            for (Path file : files.toList()) {
                Files.delete(file);
            }
        }
        Files.delete(out);
    }
}

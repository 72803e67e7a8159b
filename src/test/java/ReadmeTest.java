import java.io.IOException;
import java.net.URL;
import java.net.URLClassLoader;
import java.nio.file.Files;
import java.nio.file.Path;
import java.util.ArrayList;
import java.util.List;
import java.util.regex.Matcher;
import java.util.regex.Pattern;
import javax.tools.ToolProvider;

/** The examples of README.md are compiled and run; what stands behind // there has to be what the calls answer. */
public final class ReadmeTest {
    private static final Pattern EXAMPLE = Pattern.compile("(?s)```java\\n(.*?)```");
    private static final Pattern CALL = Pattern.compile("(int (\\w+) = )?(harbor\\..*\\));");
    private static final Pattern DUE = Pattern.compile("// (-?\\d+|true|false|throws \\w+)\\b.*");

    /** What has to come, and the lines that tell so. */
    private final List<String> wanted = new ArrayList<>();
    private final List<String> lines = new ArrayList<>();
    private final StringBuilder program = new StringBuilder();

    public static void main(String[] args) throws IOException, ReflectiveOperationException {
        ReadmeTest test = new ReadmeTest();
        test.write(Files.readString(Path.of("README.md")));
        List<?> got = test.run();
        Checks.holds("examples tell what is due", test.wanted.size() > 60);
        Checks.due("answers of the examples", test.wanted.size(), got.size());
        for (int i = 0; i < Math.min(got.size(), test.wanted.size()); i++) {
            String want = test.wanted.get(i);
            Checks.holds(test.lines.get(i) + " (it is " + got.get(i) + ")", want.equals(got.get(i)));
        }
        Checks.end("ReadmeTest");
    }

    /** Writes a program with a method for each example, which puts what the calls answer to a list. */
    private void write(String readme) {
        program.append("public final class Examples {\n");
        program.append("    private static final java.util.List<String> got = new java.util.ArrayList<>();\n");
        StringBuilder all = new StringBuilder();
        Matcher example = EXAMPLE.matcher(readme);
        for (int i = 0; example.find(); i++) {
            program.append("    private static void example").append(i).append("() {\n");
            for (String line : example.group(1).split("\n")) {
                writeLine(line);
            }
            program.append("    }\n");
            all.append("        example").append(i).append("();\n");
        }
        program.append("    public static java.util.List<String> all() {\n").append(all);
        program.append("        return got;\n    }\n}\n");
    }

    private void writeLine(String line) {
        int behind = line.indexOf("//");
        Matcher due = DUE.matcher(behind < 0 ? "" : line.substring(behind));
        String code = behind < 0 ? line : line.substring(0, behind).trim();
        Matcher call = CALL.matcher(code);
        if (!due.matches() || !call.matches()) {
            Checks.holds("what stands behind // is understood: " + line, behind < 0);
            program.append(code).append('\n');
            return;
        }
        wanted.add(due.group(1));
        lines.add(line);
        if (due.group(1).startsWith("throws")) {
            program.append("try { got.add(\"\" + ").append(call.group(3)).append("); } catch (RuntimeException e) {")
                    .append(" got.add(\"throws \" + e.getClass().getSimpleName()); }\n");
        } else if (call.group(2) != null) {
            program.append(code).append(" got.add(\"\" + ").append(call.group(2)).append(");\n");
        } else {
            program.append("got.add(\"\" + ").append(call.group(3)).append(");\n");
        }
    }

    private List<?> run() throws IOException, ReflectiveOperationException {
        Path out = Files.createTempDirectory("readme");
        Path file = out.resolve("Examples.java");
        try {
            Files.writeString(file, program);
            int exit = ToolProvider.getSystemJavaCompiler().run(null, null, null, "-proc:none", "-cp",
                    System.getProperty("java.class.path"), "-d", out.toString(), file.toString());
            Checks.due("the examples compile", 0, exit);
            if (exit != 0) {
                return List.of();
            }
            try (URLClassLoader loader = new URLClassLoader(new URL[] {out.toUri().toURL()})) {
                return (List<?>) loader.loadClass("Examples").getMethod("all").invoke(null);
            }
        } finally {
            Files.deleteIfExists(out.resolve("Examples.class"));
            Files.deleteIfExists(file);
            Files.deleteIfExists(out);
        }
    }
}

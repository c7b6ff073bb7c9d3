import java.net.URL;
import java.net.URLClassLoader;
import java.nio.file.Files;
import java.nio.file.Path;
import java.util.ArrayList;
import java.util.List;
import java.util.regex.Matcher;
import java.util.regex.Pattern;
import javax.tools.JavaCompiler;
import javax.tools.ToolProvider;

/** What README.md shows of calls and answers is so when it is run, and it names every test that there is. */
public final class ReadmeTest {
    private static final Path README = Path.of("README.md");
    private static final Path TESTS = Path.of("src/test/java");
    private static final Pattern FENCED = Pattern.compile("```java\\n(.*?)```", Pattern.DOTALL);
    private static final Pattern SHOWN = Pattern.compile("\\s*(?:(int \\w+) = )?(.*\\)); *// -> ([^:]*?)(?::.*)?");

    public static void main(String[] args) throws Exception {
        String text = Files.readString(README);
        run(shownIn(text));
        namesEveryTest(text);
        Check.end();
    }

    private static List<String> shownIn(String text) {
        List<String> lines = new ArrayList<>();
        Matcher fenced = FENCED.matcher(text);
        while (fenced.find()) {
            lines.addAll(List.of(fenced.group(1).split("\n")));
        }
        return lines;
    }

    /** The lines as they stand, but that each answer is compared with the one behind its arrow. */
    private static void run(List<String> lines) throws Exception {
        StringBuilder source = new StringBuilder("public final class ReadmeRun { public static int run() { int wrong = 0;\n");
        int answers = 0;
        for (String line : lines) {
            Matcher shown = SHOWN.matcher(line);
            if (shown.matches()) {
                answers++;
                source.append(compared(shown.group(1), shown.group(2), shown.group(3).strip()));
            } else {
                Check.due("README.md: a call without an answer: " + line, false, line.contains("wire."));
                source.append(line).append('\n');
            }
        }
        source.append("return wrong; } private static int due(String call, String want, Object got) {\n")
            .append("boolean same = want.equals(String.valueOf(got)); if (!same) System.out.println(")
            .append("\"README.md: \" + call + \" -> \" + got + \", shown is \" + want); return same ? 0 : 1; } }\n");
        Check.due("README.md shows answers", true, answers > 10);
        Check.due("README.md: answers that are not as shown", 0, runSource(source.toString()));
    }

    private static String compared(String variable, String call, String want) {
        String named = "\"" + call.replace("\"", "\\\"") + "\", \"" + want + "\", ";
        if (want.startsWith("throws ")) {
            return "{ Object got; try { got = " + call + "; } catch (RuntimeException e) {"
                + " got = \"throws \" + e.getClass().getSimpleName(); } wrong += due(" + named + "got); }\n";
        }
        if (variable == null) {
            return "wrong += due(" + named + call + ");\n";
        }
        String name = variable.substring(4);
        return variable + " = " + call + "; wrong += due(" + named + name + ");\n";
    }

    private static int runSource(String source) throws Exception {
        Path made = Files.createTempDirectory("readme");
        Path file = made.resolve("ReadmeRun.java");
        Path compiled = made.resolve("ReadmeRun.class");
        try {
            Files.writeString(file, source);
            JavaCompiler compiler = ToolProvider.getSystemJavaCompiler();
            String path = System.getProperty("java.class.path");
            if (compiler.run(null, null, null, "-cp", path, "-d", made.toString(), file.toString()) != 0) {
                return -1;
            }
            try (URLClassLoader loader = new URLClassLoader(new URL[] {made.toUri().toURL()})) {
                return (int) loader.loadClass("ReadmeRun").getMethod("run").invoke(null);
            }
        } finally {
            Files.deleteIfExists(file);
            Files.deleteIfExists(compiled);
            Files.deleteIfExists(made);
        }
    }

    private static void namesEveryTest(String text) throws Exception {
        try (var files = Files.list(TESTS)) {
            for (Path file : files.sorted().toList()) {
                String name = file.getFileName().toString().replace(".java", "");
                Check.due("README.md names " + name, true, text.contains("`" + name + "`"));
            }
        }
    }
}

import java.io.IOException;
import java.lang.reflect.Method;
import java.lang.reflect.Modifier;
import java.net.URL;
import java.net.URLClassLoader;
import java.nio.file.Files;
import java.nio.file.Path;
import java.util.Comparator;
import java.util.List;
import java.util.regex.Matcher;
import java.util.regex.Pattern;
import java.util.stream.Stream;
import javax.tools.ToolProvider;

/**
 * What README.md says is so: its blocks of Java are put together as a program, in which each call
 * with a number behind it must answer that; and it names each call of the class and each test.
 */
public final class ReadmeTest {
    private static final Pattern CALL = Pattern.compile("([a-z].*);\\s+// (-?\\d+)(:.*)?");
    private static int wrong = 0;
    private static int calls = 0;

    public static void main(String[] args) throws Exception {
        List<String> page = Files.readAllLines(Path.of("README.md"));
        runBlocks(page);
        String text = String.join("\n", page);
        for (Method method : ExamSlips.class.getDeclaredMethods()) {
            if (Modifier.isPublic(method.getModifiers()) && !text.contains("`" + method.getName() + "`")) {
                tell("README.md does not name the call " + method.getName());
            }
        }
        namesEachTest(text);
        System.out.println(wrong == 0 ? "ReadmeTest: " + calls + " calls answer as the page says"
                : "ReadmeTest: " + wrong + " things are not as the page says");
        if (wrong != 0) {
            System.exit(1);
        }
    }

    private static void tell(String why) {
        wrong++;
        System.out.println(why);
    }

    /** Called by the program that is made of the page's blocks. */
    public static void due(int line, String call, long got, long want) {
        calls++;
        if (got != want) {
            tell("README.md, line " + line + ": " + call + " answered " + got + ", the page says " + want);
        }
    }

    private static void runBlocks(List<String> page) throws Exception {
        StringBuilder functions = new StringBuilder();
        StringBuilder body = new StringBuilder();
        StringBuilder into = null;
        for (int i = 0; i < page.size(); i++) {
            String line = page.get(i);
            if (line.startsWith("```")) {
                boolean begins = line.equals("```java");
                into = !begins ? null : page.get(i + 1).startsWith("static ") ? functions : body;
            } else if (into == functions && into != null) {
                functions.append(line).append('\n');
            } else if (into != null) {
                body.append(asCheck(i + 1, line)).append('\n');
            }
        }
        String program = "public final class ReadmeBlocks {\n" + functions
                + "public static void run() {\n" + body + "}\n}\n";
        compileAndRun(program);
    }

    private static String asCheck(int number, String line) {
        Matcher call = CALL.matcher(line);
        if (line.startsWith("ExamSlips ")) {
            return line;
        }
        if (!call.matches()) {
            tell("README.md, line " + number + ": a call without the answer behind it: " + line);
            return "";
        }
        String told = call.group(1).replace("\\", "\\\\").replace("\"", "\\\"");
        return "ReadmeTest.due(" + number + ", \"" + told + "\", " + call.group(1) + ", " + call.group(2) + ");";
    }

    private static void compileAndRun(String program) throws Exception {
        Path dir = Files.createTempDirectory("readme");
        try {
            Path source = dir.resolve("ReadmeBlocks.java");
            Files.writeString(source, program);
            int failed = ToolProvider.getSystemJavaCompiler().run(null, null, null, "-proc:none", "-cp",
                    System.getProperty("java.class.path"), "-d", dir.toString(), source.toString());
            if (failed != 0) {
                tell("the blocks of README.md do not compile");
                return;
            }
            try (URLClassLoader loader = new URLClassLoader(new URL[] {dir.toUri().toURL()})) {
                loader.loadClass("ReadmeBlocks").getMethod("run").invoke(null);
            }
        } finally {
            remove(dir);
        }
    }

    private static void remove(Path dir) throws IOException {
        try (Stream<Path> all = Files.walk(dir)) {
            for (Path path : all.sorted(Comparator.reverseOrder()).toList()) {
                Files.delete(path);
            }
        }
    }

    private static void namesEachTest(String text) throws IOException {
        try (Stream<Path> tests = Files.list(Path.of("src/test/java"))) {
            for (Path test : tests.toList()) {
                String name = test.getFileName().toString().replace(".java", "");
                if (!text.contains("| `" + name + "` |")) {
                    tell("README.md does not name the test " + name);
                }
            }
        }
        Matcher named = Pattern.compile("\\| `(\\w+Test)` \\|").matcher(text);
        while (named.find()) {
            if (!Files.exists(Path.of("src/test/java/" + named.group(1) + ".java"))) {
                tell("README.md names a test that is not there: " + named.group(1));
            }
        }
    }
}

import java.net.URL;
import java.net.URLClassLoader;
import java.nio.charset.StandardCharsets;
import java.nio.file.Files;
import java.nio.file.Path;
import java.util.List;
import java.util.regex.Matcher;
import java.util.regex.Pattern;
import javax.tools.ToolProvider;

/** The calls of README.md answer what it says: its Java is compiled as it stands there, and run. */
public final class ReadmeTest {
    /** A call, and behind it what it answers: a number, or the name of a constant. */
    private static final Pattern CALL = Pattern.compile("(.*\\));\\s+// (-?\\d+|[A-Z]+)(:.*)?");
    private static final Due due = new Due();

    public static void main(String[] args) throws Exception {
        StringBuilder program = new StringBuilder("public final class Readme { public static void run() {\n");
        boolean isJava = false;
        int calls = 0;
        for (String line : Files.readAllLines(Path.of("README.md"), StandardCharsets.UTF_8)) {
            if (line.startsWith("```")) {
                isJava = line.equals("```java");
            } else if (isJava) {
                Matcher call = CALL.matcher(line);
                calls += call.matches() ? 1 : 0;
                program.append(call.matches() ? asked(call.group(1), call.group(2)) : line).append('\n');
            }
        }
        due.is("README.md shows calls", calls > 20 ? 1 : 0, 1);
        run(program.append("} }\n").toString());
        due.end();
    }

    /** Called by the program that this one makes, which sees public classes alone. */
    public static void is(String call, long got, long want) {
        due.is(call, got, want);
    }

    private static String asked(String call, String answer) {
        String want = Character.isUpperCase(answer.charAt(0)) ? "HeronFord." + answer : answer;
        return "ReadmeTest.is(\"" + call.replace("\"", "\\\"") + "\", " + call + ", " + want + ");";
    }

    private static void run(String program) throws Exception {
        Path directory = Files.createTempDirectory("readme");
        try {
            Path source = directory.resolve("Readme.java");
            Files.writeString(source, program);
            String classes = System.getProperty("java.class.path");
            int status = ToolProvider.getSystemJavaCompiler().run(null, null, null, "-cp", classes, "-d", directory.toString(),
                source.toString());
            due.is("javac of README.md's Java", status, 0);
            if (status == 0) {
                try (URLClassLoader loader = new URLClassLoader(new URL[] {directory.toUri().toURL()})) {
                    loader.loadClass("Readme").getMethod("run").invoke(null);
                }
            }
        } finally {
            for (String name : List.of("Readme.java", "Readme.class", ".")) {
                Files.deleteIfExists(directory.resolve(name).normalize());
            }
        }
    }
}

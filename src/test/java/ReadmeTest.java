import java.io.IOException;
import java.io.PrintWriter;
import java.io.StringWriter;
import java.net.URL;
import java.net.URLClassLoader;
import java.nio.charset.StandardCharsets;
import java.nio.file.Files;
import java.nio.file.Path;
import java.util.ArrayList;
import java.util.Arrays;
import java.util.List;
import java.util.regex.Matcher;
import java.util.regex.Pattern;
import java.util.spi.ToolProvider;

/** README.md: each call of the example answers what stands behind it, and each call of the class is told of. */
public final class ReadmeTest {
    private static final Pattern CALL = Pattern.compile("(x\\.\\w+\\(.*\\)); // (-?\\d+)(:.*)?");

    private ReadmeTest() {
    }

    private static List<String> readme() {
        try {
            return Files.readAllLines(Path.of("README.md"), StandardCharsets.US_ASCII);
        } catch (IOException missing) {
            throw new IllegalStateException(missing);
        }
    }

    private static List<String> example() {
        List<String> lines = readme();
        int from = lines.indexOf("```java") + 1;
        Check.holds("there is an example", from > 0);
        return lines.subList(from, from + lines.subList(from, lines.size()).indexOf("```"));
    }

    /** The example as a class whose main answers a row of calls with what they answer and what is due. */
    private static String program() {
        List<String> lines = new ArrayList<>(List.of("public class Example {",
            "  public static Object[][] run() {", "    java.util.List<Object[]> rows = new java.util.ArrayList<>();"));
        for (String line : example()) {
            Matcher call = CALL.matcher(line);
            if (call.matches()) {
                lines.add("    rows.add(new Object[] {\"" + call.group(1) + "\", (long) " + call.group(1) + ", "
                    + call.group(2) + "L});");
            } else {
                lines.add("    " + line);
            }
        }
        lines.addAll(List.of("    return rows.toArray(new Object[0][]);", "  }", "}"));
        return String.join("\n", lines);
    }

    private static Object[][] answers() throws IOException, ReflectiveOperationException {
        Path room = Files.createTempDirectory("readme");
        Path source = room.resolve("Example.java");
        Path made = room.resolve("Example.class");
        try {
            Files.writeString(source, program());
            StringWriter said = new StringWriter();
            int code = ToolProvider.findFirst("javac").orElseThrow().run(new PrintWriter(said), new PrintWriter(said),
                "-cp", System.getProperty("java.class.path"), "-d", room.toString(), source.toString());
            Check.holds("the example compiles: " + said, code == 0);
            if (code != 0) {
                return new Object[0][];
            }
            try (URLClassLoader loader = new URLClassLoader(new URL[] {room.toUri().toURL()})) {
                return (Object[][]) loader.loadClass("Example").getMethod("run").invoke(null);
            }
        } finally {
            Files.deleteIfExists(source);
            Files.deleteIfExists(made);
            Files.deleteIfExists(room);
        }
    }

    private static void exampleAnswers() {
        Object[][] rows;
        try {
            rows = answers();
        } catch (IOException | ReflectiveOperationException fault) {
            throw new IllegalStateException(fault);
        }
        Check.holds("calls stand in the example", rows.length > 20);
        for (Object[] row : rows) {
            Check.due((String) row[0], (Long) row[1], (Long) row[2]);
        }
    }

    private static void allCallsAreTold() {
        String text = String.join("\n", readme());
        Arrays.stream(CourtMatcher.class.getDeclaredMethods())
            .filter(m -> java.lang.reflect.Modifier.isPublic(m.getModifiers()))
            .forEach(m -> Check.holds(m.getName() + " is told of", text.contains("`" + m.getName() + "(")));
    }

    public static void main(String[] args) {
        Check.test("README: the example answers as it says", ReadmeTest::exampleAnswers);
        Check.test("README: each call is told of", ReadmeTest::allCallsAreTold);
        Check.end();
    }
}

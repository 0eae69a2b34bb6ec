import java.io.IOException;
import java.lang.reflect.Method;
import java.lang.reflect.Modifier;
import java.nio.file.Files;
import java.nio.file.Path;
import java.util.ArrayList;
import java.util.List;
import java.util.regex.Matcher;
import java.util.regex.Pattern;
import java.util.stream.Stream;

/** README.md: its example answers as its comments say, and it tells of every call and every test. */
final class ReadmeTest {
    private static final Pattern CALL =
            Pattern.compile("book\\.(\\w+)\\(([^)]*)\\);(?:\\s*// (true|false|-?\\d+)\\b.*)?");

    public static void main(String[] args) throws IOException {
        String text = Files.readString(Path.of("README.md"));
        example(text);
        everyCall(text);
        everyTest(text);
        Check.that("how the tests are run", text.contains("\n    .ci/run\n"));
        Check.end();
    }

    private static void example(String text) {
        String begin = "```java\nLandBook book = new LandBook();\n";
        int from = text.indexOf(begin);
        int to = text.indexOf("```", from + begin.length());
        Check.that("an example", from >= 0 && to >= 0);
        if (from < 0 || to < 0) {
            return;
        }
        List<String> lines = new ArrayList<>();
        for (String line : text.substring(from + begin.length(), to).split("\n+")) {
            Matcher call = CALL.matcher(line);
            Check.that("a call and its answer: " + line, call.matches());
            if (call.matches()) {
                String due = call.group(3) == null ? "" : " -> " + call.group(3);
                lines.add(call.group(1) + " " + call.group(2).replace(",", "") + due);
            }
        }
        Script.run("README.md", lines.toArray(new String[0]));
    }

    private static void everyCall(String text) {
        for (Method method : LandBook.class.getDeclaredMethods()) {
            if (Modifier.isPublic(method.getModifiers())) {
                Check.that(method.getName() + " in the example", text.contains("book." + method.getName() + "("));
                Check.that(method.getName() + " in the table", text.contains("`" + method.getName() + "("));
            }
        }
    }

    private static void everyTest(String text) throws IOException {
        try (Stream<Path> files = Files.list(Path.of("src/test/java"))) {
            for (Path file : files.toList()) {
                String name = file.getFileName().toString().replace(".java", "");
                Check.that(name + " in the table", !name.endsWith("Test") || text.contains("`" + name + "`"));
            }
        }
    }
}

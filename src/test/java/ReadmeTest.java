import java.io.IOException;
import java.lang.reflect.Method;
import java.lang.reflect.Modifier;
import java.nio.file.DirectoryStream;
import java.nio.file.Files;
import java.nio.file.Path;
import java.util.regex.Matcher;
import java.util.regex.Pattern;

/** What README.md says of the class: its example, and that it names every call and every test. */
public final class ReadmeTest {
    private static final Check CHECK = new Check();
    private static final Pattern TEXT = Pattern.compile("String text = \"([^\"]*)\";");
    private static final Pattern ASKED = Pattern.compile("(?m)^x\\.(\\w+)\\(([^)]*)\\); +// (-?\\d+):");

    public static void main(String[] args) throws Exception {
        String page = Files.readString(Path.of("README.md"));
        example(page);
        namesEveryCall(page);
        namesEveryTest(page);
        CHECK.end();
    }

    private static void example(String page) throws ReflectiveOperationException {
        String block = page.substring(page.indexOf("```java"), page.indexOf("```\n", page.indexOf("```java")));
        Matcher text = TEXT.matcher(block);
        CHECK.isTrue("the example has a text", text.find());
        PaperLayers x = new PaperLayers();
        Matcher line = ASKED.matcher(block.replace("text.length()", "" + text.group(1).length()));
        int lines = 0;
        while (line.find()) {
            long answer = answerOf(x, line.group(1), line.group(2));
            CHECK.due(line.group(), answer, Long.parseLong(line.group(3)));
            if (lines == 0) {
                // the example's loop, which stands behind its first call
                for (int i = 0; i < text.group(1).length(); i++) {
                    CHECK.due("the example's put", x.put(0, i, text.group(1).charAt(i)), 1);
                }
            }
            lines++;
        }
        int calls = block.split("\nx\\.", -1).length - 1;
        CHECK.due("each call of the example has its answer", lines, calls);
    }

    private static long answerOf(PaperLayers x, String name, String numbers) throws ReflectiveOperationException {
        String[] parts = numbers.isEmpty() ? new String[0] : numbers.split(", ");
        Class<?>[] types = new Class<?>[parts.length];
        Object[] values = new Object[parts.length];
        for (int i = 0; i < parts.length; i++) {
            types[i] = int.class;
            values[i] = Integer.parseInt(parts[i]);
        }
        return ((Number) PaperLayers.class.getMethod(name, types).invoke(x, values)).longValue();
    }

    private static void namesEveryCall(String page) {
        for (Method m : PaperLayers.class.getDeclaredMethods()) {
            if (Modifier.isPublic(m.getModifiers())) {
                CHECK.isTrue("README.md tells what " + m.getName() + " is for", page.contains("`" + m.getName() + "("));
            }
        }
    }

    private static void namesEveryTest(String page) throws IOException {
        try (DirectoryStream<Path> tests = Files.newDirectoryStream(Path.of("src/test/java"), "*Test.java")) {
            for (Path test : tests) {
                String name = test.getFileName().toString().replace(".java", "");
                CHECK.isTrue("README.md names " + name, page.contains("| " + name + " |"));
            }
        }
    }
}

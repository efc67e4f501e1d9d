import java.io.File;
import java.lang.reflect.Field;
import java.lang.reflect.Method;
import java.lang.reflect.Modifier;
import java.nio.file.Files;
import java.nio.file.Path;
import java.util.List;
import java.util.regex.Matcher;
import java.util.regex.Pattern;

/** README.md: its example is carried out line by line, and it names all that can be called. */
public final class ReadmeTest {
    private static final Check CHECK = new Check();
    private static final Pattern LINE = Pattern.compile("x\\.(\\w+)\\((.*?)\\); +// ([-\\w]+): .*");

    public static void main(String[] args) throws Exception {
        List<String> lines = Files.readAllLines(Path.of("README.md"));
        example(lines);
        calls(String.join("\n", lines));
        CHECK.end("ReadmeTest");
    }

    private static void example(List<String> lines) throws Exception {
        int from = lines.indexOf("```java");
        CHECK.that("there is an example", from >= 0);
        CHECK.alike("its first line", lines.get(from + 1), "KeyedLogs x = new KeyedLogs();");
        KeyedLogs x = new KeyedLogs();
        for (int i = from + 2; !lines.get(i).equals("```"); i++) {
            Matcher line = LINE.matcher(lines.get(i));
            CHECK.that("a call and its answer: " + lines.get(i), line.matches());
            if (line.matches()) {
                CHECK.due(lines.get(i), answer(x, line.group(1), line.group(2)), told(line.group(3)));
            }
        }
    }

    private static long answer(KeyedLogs x, String name, String numbers) throws Exception {
        String[] told = numbers.isEmpty() ? new String[0] : numbers.split(", ");
        Class<?>[] types = new Class<?>[told.length];
        Object[] values = new Object[told.length];
        for (int i = 0; i < told.length; i++) {
            types[i] = int.class;
            values[i] = Integer.parseInt(told[i]);
        }
        return ((Number) KeyedLogs.class.getMethod(name, types).invoke(x, values)).longValue();
    }

    private static long told(String answer) throws Exception {
        return Character.isLetter(answer.charAt(0))
                ? KeyedLogs.class.getField(answer).getLong(null) : Long.parseLong(answer);
    }

    private static void calls(String page) {
        for (Method m : KeyedLogs.class.getDeclaredMethods()) {
            if (Modifier.isPublic(m.getModifiers())) {
                int many = m.getParameterCount();
                String numbers = many == 0 ? "" : "\\w+" + ", \\w+".repeat(many - 1);
                Pattern row = Pattern.compile("\\| `" + m.getName() + "\\(" + numbers + "\\)` \\| ");
                CHECK.that("a row for " + m, row.matcher(page).find());
            }
        }
        for (Field f : KeyedLogs.class.getFields()) {
            CHECK.that("a row for " + f, page.contains("| `" + f.getName() + "` ("));
        }
        String[] tests = new File("src/test/java").list((folder, name) -> name.endsWith("Test.java"));
        CHECK.that("tests are there", tests != null && tests.length > 0);
        for (String test : tests) {
            CHECK.that("a line for " + test, page.contains("`" + test.replace(".java", "") + "`"));
        }
    }
}

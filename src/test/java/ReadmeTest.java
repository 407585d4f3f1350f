import java.io.IOException;
import java.lang.reflect.Method;
import java.lang.reflect.Modifier;
import java.nio.file.Files;
import java.nio.file.Path;
import java.util.Arrays;
import java.util.regex.Matcher;
import java.util.regex.Pattern;

/** What README.md shows is so: each call of its example answers what stands behind it; no call, kind or test is left out. */
public final class ReadmeTest {
    private static final Pattern SHOWN = Pattern.compile("hall\\.(\\w+)\\(([^)]*)\\);\\s*// (-?\\d+)");
    private static final String[] KINDS = {
        "CONSTANT", "SET", "ADD", "DRAW", "MARK", "PART", "SNAP", "THEN", "WHEN", "TIMES", "TRY", "LATER", "COUNT",
        "PULL", "LOOK"};

    public static void main(String[] args) throws IOException, ReflectiveOperationException {
        Path root = Path.of(args.length > 0 ? args[0] : ".");
        String text = Files.readString(root.resolve("README.md"));
        Check check = new Check();
        exampleAnswers(check, text.substring(text.indexOf("```java"), text.lastIndexOf("```")));
        for (Method method : LeverHall.class.getDeclaredMethods()) {
            if (Modifier.isPublic(method.getModifiers())) {
                shows(check, text, "| `" + method.getName() + "(");
            }
        }
        for (int kind = 0; kind < KINDS.length; kind++) {
            shows(check, text, "| " + kind + " " + KINDS[kind] + " |");
        }
        String[] tests = root.resolve("src/test/java").toFile().list((dir, name) -> name.endsWith("Test.java"));
        check.due("there are tests", tests != null && tests.length > 0 ? 1 : 0, 1);
        for (String test : tests) {
            shows(check, text, "| `" + test.replace(".java", "") + "` |");
        }
        check.end();
    }

    private static void shows(Check check, String text, String words) {
        check.due("README.md shows " + words, text.contains(words) ? 1 : 0, 1);
    }

    private static void exampleAnswers(Check check, String example) throws ReflectiveOperationException {
        LeverHall hall = new LeverHall();
        int calls = 0;
        Matcher shown = SHOWN.matcher(example);
        while (shown.find()) {
            check.due(shown.group(), answer(hall, shown.group(1), shown.group(2)), Integer.parseInt(shown.group(3)));
            calls++;
        }
        check.due("each call of the example has its answer", calls, example.split("hall\\.", -1).length - 1);
    }

    private static int answer(LeverHall hall, String name, String list) throws ReflectiveOperationException {
        Object[] numbers = list.isEmpty() ? new Object[0]
                : Arrays.stream(list.split(", ")).map(Integer::valueOf).toArray();
        Class<?>[] types = new Class<?>[numbers.length];
        Arrays.fill(types, int.class);
        return (int) LeverHall.class.getMethod(name, types).invoke(hall, numbers);
    }
}

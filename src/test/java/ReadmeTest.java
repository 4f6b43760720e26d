import java.lang.reflect.Method;
import java.nio.file.Files;
import java.nio.file.Path;
import java.util.regex.Matcher;
import java.util.regex.Pattern;

/** README.md: its example answers what it says, and it tells every call of the face with its parameters. */
public final class ReadmeTest {
    private final Check check = new Check();

    /** The rows 'desk.name(1, 2);  // 3 ..' in their order, on the text that the example types. */
    private void example(String page) throws Exception {
        Matcher text = Pattern.compile("for \\(char letter : \"([^\"]*)\"").matcher(page);
        check.due("the example has a text", text.find() ? 1 : 0, 1);
        WindowDesk desk = new WindowDesk();
        Check.typeAll(desk, text.group(1));
        Matcher row = Pattern.compile("(?m)^desk\\.(\\w+)\\(([^)]*)\\);\\s+// (-?\\d+)\\b").matcher(page);
        int rows = 0;
        while (row.find()) {
            check.due(row.group(), answer(desk, row.group(1), row.group(2)), Integer.parseInt(row.group(3)));
            rows++;
        }
        check.due("rows that answer a number", rows, page.split("(?m)^desk\\.", -1).length - 1);
    }

    private static int answer(WindowDesk desk, String name, String arguments) throws Exception {
        String[] told = arguments.isBlank() ? new String[0] : arguments.split(",\\s*");
        Object[] numbers = new Object[told.length];
        Class<?>[] kinds = new Class<?>[told.length];
        for (int k = 0; k < told.length; k++) {
            numbers[k] = Integer.valueOf(told[k]);
            kinds[k] = int.class;
        }
        return (Integer) WindowDesk.class.getMethod(name, kinds).invoke(desk, numbers);
    }

    private void everyCall(String page) {
        for (Method m : WindowDesk.class.getDeclaredMethods()) {
            if (java.lang.reflect.Modifier.isPublic(m.getModifiers())) {
                String more = "(, \\w+){" + Math.max(0, m.getParameterCount() - 1) + "}";
                String call = m.getName() + "\\(" + (m.getParameterCount() == 0 ? "" : "\\w+" + more) + "\\)";
                boolean stands = Pattern.compile("(?m)^\\| `" + call + "` \\|").matcher(page).find();
                check.due("README.md tells " + m.getName(), stands ? 1 : 0, 1);
            }
        }
        for (String word : new String[] {"`BAD` (-1", "`STATE` (-2", "`FULL` (-3", "`NONE` (-9", "bash .ci/run"}) {
            check.due("README.md tells " + word, page.contains(word) ? 1 : 0, 1);
        }
    }

    /** Each test that .ci/run finds is named. */
    private void everyTest(String page) throws Exception {
        try (var files = Files.list(Path.of("src/test/java"))) {
            for (Path file : files.sorted().toList()) {
                String name = file.getFileName().toString().replace(".java", "");
                check.due("README.md names " + name, name.equals("Check") || page.contains("`" + name + "`") ? 1 : 0, 1);
            }
        }
    }

    public static void main(String[] args) throws Exception {
        ReadmeTest test = new ReadmeTest();
        String page = Files.readString(Path.of("README.md"));
        test.example(page);
        test.everyCall(page);
        test.everyTest(page);
        test.check.end();
    }
}

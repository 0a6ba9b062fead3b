import java.lang.reflect.Method;
import java.lang.reflect.Modifier;
import java.nio.file.Files;
import java.nio.file.Path;
import java.util.regex.Matcher;
import java.util.regex.Pattern;

/** README.md tells how to use the class: its example is run line by line, and no call is left out. */
public final class ReadmeTest {
    private static final Pattern LINE = Pattern.compile("^x\\.(\\w+)\\(([^)]*)\\);\\s*// (-?\\w+): ", Pattern.MULTILINE);

    public static void main(String[] args) throws Exception {
        String page = Files.readString(Path.of("README.md"));
        String example = page.substring(page.indexOf("```java"));
        example = example.substring(0, example.indexOf("\n```\n"));
        everyLineTellsItsAnswer(example);
        answers(example);
        everyCallIsNamed(page);
        Checks.end();
    }

    private static void everyLineTellsItsAnswer(String example) {
        long calls = example.lines().filter(line -> line.startsWith("x.")).count();
        Checks.due("the example has calls", calls > 0, true);
        Checks.due("calls of the example that tell their answer", LINE.matcher(example).results().count(), calls);
    }

    private static void answers(String example) throws Exception {
        BlockSearch x = new BlockSearch();
        Matcher line = LINE.matcher(example);
        while (line.find()) {
            String call = line.group(1) + "(" + line.group(2) + ")";
            Checks.same("README: " + call, answer(x, line.group(1), line.group(2)), line.group(3));
        }
    }

    private static String answer(BlockSearch x, String name, String written) throws Exception {
        String[] numbers = written.isEmpty() ? new String[0] : written.split(", ");
        Class<?>[] types = new Class<?>[numbers.length];
        Object[] values = new Object[numbers.length];
        for (int i = 0; i < numbers.length; i++) {
            types[i] = int.class;
            values[i] = Integer.valueOf(numbers[i]);
        }
        Object got = BlockSearch.class.getMethod(name, types).invoke(x, values);
        return got.equals(BlockSearch.NONE) ? "NONE" : got.toString();
    }

    private static void everyCallIsNamed(String page) {
        for (Method method : BlockSearch.class.getDeclaredMethods()) {
            if (Modifier.isPublic(method.getModifiers())) {
                Pattern row = Pattern.compile("^\\| `" + method.getName() + "\\([^)]*\\)` \\|", Pattern.MULTILINE);
                Checks.due("README has a row for " + method.getName(), row.matcher(page).find(), true);
            }
        }
    }
}

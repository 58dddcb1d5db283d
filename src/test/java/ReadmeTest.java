import java.io.IOException;
import java.lang.reflect.Method;
import java.lang.reflect.Modifier;
import java.nio.file.Files;
import java.nio.file.Path;
import java.util.regex.Matcher;
import java.util.regex.Pattern;

/** README.md's example is read from the page itself, so that page and class can't come apart. */
public final class ReadmeTest {
    private static final Pattern TEXT = Pattern.compile("typeAll\\(x, \"([^\"]*)\"\\);");
    private static final Pattern CALL = Pattern.compile("x\\.([a-z]+)\\(([-0-9, ]*)\\);\\s*// (-?[0-9]+):.*");
    private static final Due due = new Due("ReadmeTest");

    public static void main(String[] args) throws IOException, ReflectiveOperationException {
        String page = Files.readString(Path.of("README.md"));
        example(page);
        namesEveryCall(page);
        due.end();
    }

    private static void example(String page) throws ReflectiveOperationException {
        DarkLeavers x = new DarkLeavers();
        int calls = 0;
        for (String line : page.split("\n")) {
            Matcher text = TEXT.matcher(line);
            Matcher call = CALL.matcher(line);
            if (text.matches()) {
                Due.typeAll(x, text.group(1));
            } else if (call.matches()) {
                due.is(line, answer(x, call.group(1), call.group(2)), Long.parseLong(call.group(3)));
                calls++;
            }
        }
        due.holds("the example was found", calls >= 20);
    }

    private static long answer(DarkLeavers x, String name, String told) throws ReflectiveOperationException {
        String[] numbers = told.isBlank() ? new String[0] : told.split(", *");
        Object[] given = new Object[numbers.length];
        Class<?>[] kinds = new Class<?>[numbers.length];
        for (int i = 0; i < numbers.length; i++) {
            given[i] = Integer.valueOf(numbers[i]);
            kinds[i] = int.class;
        }
        return ((Number) DarkLeavers.class.getMethod(name, kinds).invoke(x, given)).longValue();
    }

    private static void namesEveryCall(String page) {
        for (Method method : DarkLeavers.class.getDeclaredMethods()) {
            if (Modifier.isPublic(method.getModifiers())) {
                due.holds("README.md names " + method.getName(), page.contains("`" + method.getName() + "`"));
            }
        }
    }
}

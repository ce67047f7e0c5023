import java.io.File;
import java.io.IOException;
import java.lang.reflect.Method;
import java.nio.file.Files;
import java.nio.file.Path;
import java.util.regex.Matcher;
import java.util.regex.Pattern;

/** What README.md says is so: its calls answer what stands behind them, and it names the tests that there are. */
public final class ReadmeTest {
    private static final Pattern CALL = Pattern.compile("(?m)^x\\.(\\w+)\\((.*?)\\); +// (-?\\d+), ");
    private static final Due due = new Due();

    public static void main(String[] args) throws IOException, ReflectiveOperationException {
        String page = Files.readString(Path.of("README.md"));
        String example = page.split("```")[1];
        Matcher calls = CALL.matcher(example);
        DialTown x = new DialTown();
        int made = 0;
        while (calls.find()) {
            made++;
            due.is("call " + made + ": " + calls.group(), answer(x, calls.group(1), calls.group(2)), Long.parseLong(calls.group(3)));
        }
        due.is("calls of the page", made, example.split("\nx\\.", -1).length - 1);
        namesTests(page);
        due.end();
    }

    private static int answer(DialTown x, String name, String told) throws ReflectiveOperationException {
        String[] numbers = told.isEmpty() ? new String[0] : told.split(", ");
        for (Method method : DialTown.class.getMethods()) {
            if (method.getName().equals(name) && method.getDeclaringClass() == DialTown.class) {
                Object[] values = new Object[numbers.length];
                for (int i = 0; i < numbers.length; i++) {
                    long value = Long.decode(numbers[i].replace("L", ""));
                    values[i] = method.getParameterTypes()[i] == long.class ? (Object) value : (Object) (int) value;
                }
                return (int) method.invoke(x, values);
            }
        }
        throw new NoSuchMethodException(name);
    }

    private static void namesTests(String page) {
        for (String file : new File("src/test/java").list()) {
            String name = "`" + file.replace(".java", "") + "`";
            due.is("README.md names " + name, !name.endsWith("Test`") || page.contains(name) ? 1 : 0, 1);
        }
        Matcher named = Pattern.compile("`(\\w+Test)`").matcher(page);
        while (named.find()) {
            due.is("there is " + named.group(1), new File("src/test/java/" + named.group(1) + ".java").exists() ? 1 : 0, 1);
        }
    }
}

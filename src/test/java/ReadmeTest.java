import java.io.IOException;
import java.lang.reflect.InvocationTargetException;
import java.lang.reflect.Method;
import java.nio.file.Files;
import java.nio.file.Path;
import java.util.regex.Matcher;
import java.util.regex.Pattern;

/** The calls that README.md shows answer what it says behind them. */
public final class ReadmeTest {
    private static final Pattern CITY = Pattern.compile("```text\n(.*?)```", Pattern.DOTALL);
    private static final Pattern CALL =
            Pattern.compile("^walls\\.(\\w+)\\((.*)\\); *// (-?\\d+|true|false)", Pattern.MULTILINE);

    public static void main(String[] args) throws Exception {
        Check check = new Check();
        String text = Files.readString(Path.of("README.md"));
        OathWalls walls = new OathWalls();
        Matcher city = CITY.matcher(text);
        check.is("a city is told", city.find(), true);
        Check.feed(walls, city.group(1));
        Matcher call = CALL.matcher(text);
        int calls = 0;
        while (call.find()) {
            String answer = answer(walls, call.group(1), call.group(2));
            check.is(call.group() + " (answered " + answer + ")", answer.equals(call.group(3)), true);
            calls++;
        }
        check.is("calls are shown", calls > 10, true);
        check.end();
    }

    private static String answer(OathWalls walls, String name, String arguments)
            throws IllegalAccessException, InvocationTargetException, IOException {
        String[] words = arguments.isEmpty() ? new String[0] : arguments.split(", ");
        for (Method method : OathWalls.class.getMethods()) {
            if (method.getName().equals(name)) {
                Object[] values = new Object[words.length];
                for (int i = 0; i < words.length; i++) {
                    values[i] = Integer.valueOf(words[i]);
                }
                return String.valueOf(method.invoke(walls, values));
            }
        }
        throw new IOException("no call " + name);
    }
}

import java.lang.reflect.Method;
import java.lang.reflect.Modifier;
import java.nio.file.Path;
import java.util.regex.Matcher;
import java.util.regex.Pattern;

// README.md tells the truth: its example answers as it says, and no method is left out.
public final class ReadmeTest extends Checks {
    private static final String README = Document.read(Path.of("README.md"));
    private static final Pattern CALL = Pattern.compile("suite\\.(\\w+)\\((.*)\\); +// (-?\\d+).*");

    private static int answer(TokenSuite suite, String name, String arguments) throws ReflectiveOperationException {
        String[] numbers = arguments.isEmpty() ? new String[0] : arguments.split(", ");
        Class<?>[] types = new Class<?>[numbers.length];
        Object[] values = new Object[numbers.length];
        for (int i = 0; i < numbers.length; i++) {
            types[i] = int.class;
            values[i] = Integer.valueOf(numbers[i]);
        }
        return (int) TokenSuite.class.getMethod(name, types).invoke(suite, values);
    }

    private static void exampleAnswersAsItSays() throws ReflectiveOperationException {
        TokenSuite suite = new TokenSuite();
        int calls = 0;
        for (String line : README.split("\n")) {
            Matcher call = CALL.matcher(line);
            if (call.matches()) {
                due(line, answer(suite, call.group(1), call.group(2)), Integer.parseInt(call.group(3)));
                calls++;
            } else if (line.startsWith("suite.")) {
                due("a call with its answer: " + line, 0, 1);
            }
        }
        due("README.md has an example", calls > 0 ? 1 : 0, 1);
    }

    private static void everyMethodIsThere() {
        for (Method method : TokenSuite.class.getDeclaredMethods()) {
            if (Modifier.isPublic(method.getModifiers())) {
                boolean named = README.contains("`" + method.getName() + "`");
                due("README.md names " + method.getName(), named ? 1 : 0, 1);
            }
        }
    }

    public static void main(String[] args) throws ReflectiveOperationException {
        exampleAnswersAsItSays();
        everyMethodIsThere();
        end();
    }
}

import java.lang.reflect.Method;
import java.nio.file.Files;
import java.nio.file.Path;
import java.util.regex.Matcher;
import java.util.regex.Pattern;

/** The calls that README.md shows, in their order on one object, answer what is written beside them. */
final class ReadmeTest {
    private static final Pattern TEXT = Pattern.compile("for \\(char letter : \"([^\"]*)\"\\.toCharArray\\(\\)\\) \\{");
    private static final Pattern CALL = Pattern.compile("x\\.(\\w+)\\(([^)]*)\\); +// (-?[0-9]+): .*");

    private static Object told(Class<?> type, String argument) {
        if (type == boolean.class) {
            return Boolean.valueOf(argument);
        }
        if (type == long.class) {
            return Long.valueOf(argument);
        }
        return Integer.valueOf(argument);
    }

    private static long asked(NestFinder x, String name, String arguments) throws ReflectiveOperationException {
        String[] each = arguments.isEmpty() ? new String[0] : arguments.split(", ");
        for (Method method : NestFinder.class.getMethods()) {
            if (method.getName().equals(name) && method.getParameterCount() == each.length) {
                Object[] given = new Object[each.length];
                for (int i = 0; i < each.length; i++) {
                    given[i] = told(method.getParameterTypes()[i], each[i]);
                }
                return ((Number) method.invoke(x, given)).longValue();
            }
        }
        throw new NoSuchMethodException(name);
    }

    public static void main(String[] args) throws Exception {
        Path root = Path.of(args.length > 0 ? args[0] : ".");
        NestFinder x = new NestFinder();
        int calls = 0;
        for (String line : Files.readAllLines(root.resolve("README.md"))) {
            Matcher text = TEXT.matcher(line);
            if (text.matches()) {
                for (char letter : text.group(1).toCharArray()) {
                    x.write(letter);
                }
            }
            Matcher call = CALL.matcher(line);
            if (call.matches()) {
                calls++;
                Check.due("README.md: " + call.group(1) + "(" + call.group(2) + ")",
                    asked(x, call.group(1), call.group(2)), Long.parseLong(call.group(3)));
            }
        }
        Check.due("README.md shows calls", calls > 20 ? 1 : 0, 1);
        Check.end();
    }
}

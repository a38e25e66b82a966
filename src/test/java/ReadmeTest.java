import java.lang.reflect.Method;
import java.nio.file.Files;
import java.nio.file.Path;
import java.util.regex.Matcher;
import java.util.regex.Pattern;

/** The calls that README.md shows answer what it says behind them. */
public final class ReadmeTest {
    private static final Pattern SHOWN = Pattern.compile("sum\\.(\\w+)\\(([-0-9, ]*)\\);\\s*// (true|false|-?[0-9]+).*");

    public static void main(String[] args) throws Exception {
        Checks checks = new Checks();
        PathSums sum = new PathSums();
        for (String line : Files.readAllLines(Path.of("README.md"))) {
            Matcher shown = SHOWN.matcher(line);
            if (shown.matches()) {
                String got = String.valueOf(answer(sum, shown.group(1), shown.group(2)));
                checks.due("README.md: " + line, got, shown.group(3));
            } else {
                checks.due("README.md: the answer can be read: " + line, line.startsWith("sum."), false);
            }
        }
        checks.due("README.md: each call of the face is shown or told", untold(), "");
        checks.end();
    }

    private static Object answer(PathSums sum, String name, String arguments) throws Exception {
        String[] words = arguments.isBlank() ? new String[0] : arguments.split(", *");
        Object[] numbers = new Object[words.length];
        for (int i = 0; i < words.length; i++) {
            numbers[i] = Integer.valueOf(words[i]);
        }
        for (Method method : PathSums.class.getMethods()) {
            if (method.getName().equals(name) && method.getParameterCount() == numbers.length) {
                return method.invoke(sum, numbers);
            }
        }
        return "no such call";
    }

    private static String untold() throws Exception {
        String readme = Files.readString(Path.of("README.md"));
        StringBuilder missing = new StringBuilder();
        for (Method method : PathSums.class.getDeclaredMethods()) {
            boolean isPublic = java.lang.reflect.Modifier.isPublic(method.getModifiers());
            if (isPublic && !readme.contains("| `" + method.getName() + "(")) {
                missing.append(method.getName()).append(' ');
            }
        }
        return missing.toString();
    }
}

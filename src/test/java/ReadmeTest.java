import java.io.IOException;
import java.lang.reflect.InvocationTargetException;
import java.lang.reflect.Method;
import java.lang.reflect.Modifier;
import java.nio.file.Files;
import java.nio.file.Path;
import java.util.regex.Matcher;
import java.util.regex.Pattern;

/** README.md: its example answers what it says, and it names every call. */
public final class ReadmeTest {
    private static final Pattern MAKES = Pattern.compile("ClothEnds x = new ClothEnds\\(\\);");
    private static final Pattern ASKS = Pattern.compile("x\\.(\\w+)\\((.*)\\);\\s*// (-?\\d+)(: .*)?");
    private static final int FEWEST_ASKED = 40;

    private static final Check check = new Check("ReadmeTest");

    public static void main(String[] args) throws IOException, ReflectiveOperationException {
        String page = Files.readString(Path.of("README.md"));
        for (Method m : ClothEnds.class.getDeclaredMethods()) {
            if (Modifier.isPublic(m.getModifiers())) {
                check.holds("README.md names " + m.getName(), page.contains("`" + m.getName() + "`"));
            }
        }
        check.holds("README.md says how to run the tests", page.contains(".ci/run"));
        example(page);
        check.done();
    }

    private static void example(String page) throws ReflectiveOperationException {
        int begin = page.indexOf("```java") + "```java".length();
        int end = page.indexOf("```", begin);
        check.holds("README.md has an example", begin > 7 && end > begin);
        ClothEnds x = new ClothEnds();
        int asked = 0;
        for (String line : page.substring(begin, Math.max(begin, end)).lines().toList()) {
            Matcher asks = ASKS.matcher(line);
            if (asks.matches()) {
                check.due(line, ask(x, asks.group(1), asks.group(2)), Long.parseLong(asks.group(3)));
                asked++;
            } else {
                check.holds("a line of the example: " + line,
                    line.isBlank() || line.startsWith("// ") || MAKES.matcher(line).matches());
            }
        }
        check.holds("lines of the example: " + asked, asked >= FEWEST_ASKED);
    }

    private static long ask(ClothEnds x, String name, String arguments) throws ReflectiveOperationException {
        String[] told = arguments.isBlank() ? new String[0] : arguments.split(",\\s*");
        Object[] numbers = new Object[told.length];
        for (int i = 0; i < told.length; i++) {
            numbers[i] = Integer.decode(told[i]);
        }
        for (Method m : ClothEnds.class.getMethods()) {
            if (m.getName().equals(name) && m.getParameterCount() == told.length) {
                return ((Number) m.invoke(x, numbers)).longValue();
            }
        }
        throw new InvocationTargetException(null, "no call " + name);
    }
}

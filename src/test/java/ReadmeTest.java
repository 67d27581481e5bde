import java.lang.reflect.Method;
import java.lang.reflect.Modifier;
import java.nio.file.Files;
import java.nio.file.Path;
import java.util.Arrays;
import java.util.Set;
import java.util.TreeSet;
import java.util.regex.Matcher;
import java.util.regex.Pattern;

/** The examples of README.md: each call answers what the comment behind it begins with. */
public final class ReadmeTest {
    private static final Path README = Path.of("README.md");
    private static final String BLOCK_BEGINS = "```java";
    private static final String BLOCK_ENDS = "```";
    private static final String NEW_OBJECT = "QuantifierProofs q = new QuantifierProofs();";
    private static final Pattern TYPING = Pattern.compile("typeAll\\(q, \"([^\"]*)\"\\);");
    private static final Pattern CALL =
            Pattern.compile("q\\.(\\w+)\\(([^)]*)\\); +// (-?\\d+|true|false)(:.*)?");

    private static final Set<String> SHOWN = new TreeSet<>(Arrays.asList("type"));
    private static QuantifierProofs q = new QuantifierProofs();

    public static void main(String[] args) throws Exception {
        boolean inBlock = false;
        boolean isHelper = false;
        for (String line : Files.readAllLines(README)) {
            if (line.equals(BLOCK_BEGINS)) {
                inBlock = true;
            } else if (line.equals(BLOCK_ENDS)) {
                inBlock = false;
                isHelper = false;
            } else if (inBlock) {
                isHelper |= line.startsWith("static void typeAll");
                if (!isHelper) {
                    follow(line);
                }
            }
        }
        everyMethodIsShown();
        Checks.finish("ReadmeTest");
    }

    private static void follow(String line) throws Exception {
        Matcher typing = TYPING.matcher(line);
        Matcher call = CALL.matcher(line);
        if (line.equals(NEW_OBJECT)) {
            q = new QuantifierProofs();
        } else if (typing.matches()) {
            for (char c : typing.group(1).toCharArray()) {
                Checks.due("type in " + line, q.type(c), true);
            }
        } else if (call.matches()) {
            String got = answer(call.group(1), call.group(2));
            Checks.due(line + " answered " + got, got.equals(call.group(3)), true);
        } else {
            Checks.fail("an example that cannot be followed: " + line);
        }
    }

    private static String answer(String name, String arguments) throws Exception {
        SHOWN.add(name);
        Object[] values = arguments.isEmpty() ? new Object[0]
                : Arrays.stream(arguments.split(", ")).map(Integer::valueOf).toArray();
        Class<?>[] types = new Class<?>[values.length];
        Arrays.fill(types, int.class);
        return QuantifierProofs.class.getMethod(name, types).invoke(q, values).toString();
    }

    private static void everyMethodIsShown() {
        for (Method m : QuantifierProofs.class.getDeclaredMethods()) {
            if (Modifier.isPublic(m.getModifiers())) {
                Checks.due("README.md shows " + m.getName(), SHOWN.contains(m.getName()), true);
            }
        }
    }
}

import java.lang.reflect.InvocationTargetException;
import java.lang.reflect.Method;
import java.nio.file.Files;
import java.nio.file.Path;
import java.util.List;
import java.util.regex.Matcher;
import java.util.regex.Pattern;

/** The example of README.md, call by call, gives the answers that README.md tells. */
public final class ReadmeTest {
    private static final Pattern CALL = Pattern.compile("x\\.(\\w+)\\((.*)\\);\\s+// ([\\w.-]+).*");
    private static final String FIRST_LINE = "SignRanks x = new SignRanks();";

    private ReadmeTest() {
    }

    private static List<String> example() throws Exception {
        List<String> lines = Files.readAllLines(Path.of("README.md"));
        int start = lines.indexOf("```java") + 1;
        List<String> behind = lines.subList(start, lines.size());
        return behind.subList(0, behind.indexOf("```"));
    }

    private static Method named(String name) {
        for (Method method : SignRanks.class.getMethods()) {
            if (method.getName().equals(name)) {
                return method;
            }
        }
        throw new IllegalArgumentException(name);
    }

    private static Object[] arguments(String text) {
        String[] parts = text.isEmpty() ? new String[0] : text.split(", ");
        Object[] values = new Object[parts.length];
        for (int i = 0; i < parts.length; i++) {
            values[i] = parts[i].startsWith("'") ? (int) parts[i].charAt(1) : Integer.parseInt(parts[i]);
        }
        return values;
    }

    private static String answer(SignRanks x, String name, String arguments) throws Exception {
        try {
            return named(name).invoke(x, arguments(arguments)).toString();
        } catch (InvocationTargetException thrown) {
            return thrown.getCause().getClass().getSimpleName();
        }
    }

    public static void main(String[] args) throws Exception {
        List<String> lines = example();
        Check.holds("the example makes an object first", lines.get(0).startsWith(FIRST_LINE));
        SignRanks x = new SignRanks();
        for (String line : lines.subList(1, lines.size())) {
            Matcher call = CALL.matcher(line);
            boolean read = call.matches();
            Check.holds("no call and its answer: " + line, read);
            if (read) {
                String got = answer(x, call.group(1), call.group(2));
                Check.holds(line + " answered " + got, got.equals(call.group(3)));
            }
        }
        Check.end("ReadmeTest");
    }
}

import java.lang.reflect.InvocationTargetException;
import java.lang.reflect.Method;
import java.nio.file.Files;
import java.nio.file.Path;
import java.util.Arrays;
import java.util.regex.Matcher;
import java.util.regex.Pattern;

/** Carries out the example of README.md line by line, and compares the answers that stand behind the calls. */
public final class ReadmeTest {
    private static final Check CHECK = new Check();
    private static final Pattern CALL = Pattern.compile("x\\.(\\w+)\\(([^)]*)\\); +// (throws \\w+|[-\\w.]+)(: .*)?");

    public static void main(String[] args) throws Exception {
        MarkShelter x = null;
        boolean inside = false;
        int calls = 0;
        for (String line : Files.readAllLines(Path.of("README.md"))) {
            if (line.startsWith("```")) {
                inside = line.equals("```java");
            } else if (inside && line.equals("MarkShelter x = new MarkShelter();")) {
                x = new MarkShelter();
            } else if (inside && !line.isEmpty()) {
                carryOut(x, line);
                calls++;
            }
        }
        CHECK.equal("there is an example", true, calls > 10);
        CHECK.end();
    }

    private static void carryOut(MarkShelter x, String line) throws Exception {
        Matcher matcher = CALL.matcher(line);
        CHECK.equal("a call with its answer: " + line, true, matcher.matches());
        if (matcher.matches()) {
            CHECK.equal("README: " + line, matcher.group(3), answer(x, matcher.group(1), matcher.group(2)));
        }
    }

    private static String answer(MarkShelter x, String name, String list) throws Exception {
        String[] texts = list.isEmpty() ? new String[0] : list.split(", ");
        Class<?>[] types = new Class<?>[texts.length];
        Arrays.fill(types, int.class);
        Object[] arguments = new Object[texts.length];
        for (int i = 0; i < texts.length; i++) {
            arguments[i] = (int) Long.decode(texts[i]).longValue();
        }
        Method method = MarkShelter.class.getMethod(name, types);
        try {
            return String.valueOf(method.invoke(x, arguments));
        } catch (InvocationTargetException e) {
            return "throws " + e.getCause().getClass().getSimpleName();
        }
    }
}

import java.io.IOException;
import java.lang.reflect.InvocationTargetException;
import java.lang.reflect.Method;
import java.nio.file.Files;
import java.nio.file.Path;
import java.util.regex.Matcher;
import java.util.regex.Pattern;

/** README.md's example, line by line: each call there answers, or throws, what stands behind it. */
public final class ReadmeTest {
    private static final Pattern CALL = Pattern.compile("    kitchen\\.(\\w+)\\((.*)\\); +// (throws (\\w+)|-?\\d+).*");
    private static final Due DUE = new Due();

    public static void main(String[] args) throws IOException, ReflectiveOperationException {
        KitchenBell kitchen = new KitchenBell();
        int calls = 0;
        for (String line : Files.readAllLines(Path.of("README.md"))) {
            Matcher told = CALL.matcher(line);
            if (told.matches()) {
                calls++;
                DUE.same("what " + line.trim() + " answers", answer(kitchen, told.group(1), told.group(2)), told.group(3));
            } else {
                DUE.is("a call without an answer: " + line, line.startsWith("    kitchen.") ? 1 : 0, 0);
            }
        }
        DUE.is("whether there are calls", calls > 0 ? 1 : 0, 1);
        DUE.end();
    }

    private static String answer(KitchenBell kitchen, String name, String told) throws ReflectiveOperationException {
        String[] texts = told.isEmpty() ? new String[0] : told.split(", ");
        Object[] values = new Object[texts.length];
        for (int i = 0; i < texts.length; i++) {
            boolean truth = texts[i].equals("true") || texts[i].equals("false");
            values[i] = truth ? (Object) Boolean.valueOf(texts[i]) : (Object) Integer.valueOf(texts[i]);
        }
        try {
            return String.valueOf(method(name).invoke(kitchen, values));
        } catch (InvocationTargetException thrown) {
            return "throws " + thrown.getCause().getClass().getSimpleName();
        }
    }

    private static Method method(String name) throws NoSuchMethodException {
        for (Method m : KitchenBell.class.getMethods()) {
            if (m.getName().equals(name)) {
                return m;
            }
        }
        throw new NoSuchMethodException(name);
    }
}

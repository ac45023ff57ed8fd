import java.io.IOException;
import java.lang.reflect.Field;
import java.lang.reflect.Method;
import java.lang.reflect.Modifier;
import java.nio.file.Files;
import java.nio.file.Path;
import java.util.List;
import java.util.Set;
import java.util.regex.Matcher;
import java.util.regex.Pattern;

/** Those rules of ../shared/LANGUAGE.md that the file's text, or the members of its classes, show. */
public final class LanguageTest {
    private static final Pattern FORBIDDEN = Pattern.compile(
            "->|::|@|\\b(finally|synchronized|assert|volatile|transient|native|strictfp|record|goto)\\b"
            + "|\\b(equals|hashCode|toString|getMessage|identityHashCode|System\\.(out|err|nanoTime|currentTimeMillis))\\b"
            + "|\\b\\w*Exact\\b|\\b(Exception|Throwable|Error|NullPointerException|ArrayIndexOutOfBoundsException"
            + "|ClassCastException|NegativeArraySizeException|ArrayStoreException)\\b");
    private static final Pattern LIBRARY = Pattern.compile("\\b(Arrays|System|Math|Integer|Long|List|ArrayList)\\.(\\w+)");
    private static final Set<String> TAKEN = Set.of("Arrays.copyOf", "Arrays.copyOfRange", "Arrays.fill",
            "System.arraycopy", "Math.max", "Math.min", "Math.abs", "Math.floorDiv", "Math.floorMod", "Long.bitCount",
            "Integer.bitCount", "Integer.compare", "Long.compare");
    private static final Set<String> THROWN = Set.of("IllegalStateException", "IllegalArgumentException",
            "IndexOutOfBoundsException", "ArithmeticException", "UnsupportedOperationException",
            "NoSuchElementException", "RuntimeException");
    private static final Due DUE = new Due();

    public static void main(String[] args) throws IOException {
        List<String> lines = Files.readAllLines(Path.of("src/main/java/KitchenBell.java"));
        signsAndWords(lines);
        methodsAreShort(lines);
        Class<?>[] inside = KitchenBell.class.getDeclaredClasses();
        DUE.is("some twelve classes at most", inside.length + 1 <= 12 ? 1 : 0, 1);
        members(KitchenBell.class);
        for (Class<?> one : inside) {
            members(one);
        }
        DUE.end();
    }

    // rules 4 and 6, and the signs of rule 4's texts
    private static void signsAndWords(List<String> lines) {
        boolean inComment = false;
        for (int n = 0; n < lines.size(); n++) {
            String line = lines.get(n);
            String where = "line " + (n + 1) + ": " + line.trim() + ": ";
            DUE.is(where + "signs beyond 127", line.chars().filter(sign -> sign > 127).count(), 0);
            if (line.trim().startsWith("/**")) {
                inComment = true;
            }
            String code = inComment ? "" : line.replaceAll("//.*", "").replaceAll("\"[^\"]*\"", "\"\"");
            if (line.contains("*/")) {
                inComment = false;
            }
            DUE.is(where + "a word that isn't taken", FORBIDDEN.matcher(code).find() ? 1 : 0, 0);
            Matcher library = LIBRARY.matcher(code);
            while (library.find()) {
                boolean taken = code.startsWith("import java.util.") || TAKEN.contains(library.group());
                DUE.is(where + library.group() + " is of the library taken", taken ? 1 : 0, 1);
            }
            Matcher thrown = Pattern.compile("\\bthrow\\b(?! new (\\w+)\\()|throw new (\\w+)").matcher(code);
            while (thrown.find()) {
                DUE.is(where + "what is thrown", thrown.group(2) != null && THROWN.contains(thrown.group(2)) ? 1 : 0, 1);
            }
        }
    }

    // rule 11; a method's first line ends with a brace, and its last is one, as far in
    private static void methodsAreShort(List<String> lines) {
        for (int first = 0; first < lines.size(); first++) {
            Matcher head = Pattern.compile("( {4}| {8})\\S.*\\) ?(throws .*)?\\{").matcher(lines.get(first));
            if (!head.matches()) {
                continue;
            }
            int last = first;
            while (last < lines.size() - 1 && !lines.get(last).equals(head.group(1) + "}")) {
                last++;
            }
            DUE.is("lines of " + head.group().trim() + " are some sixty", last - first + 1 <= 60 ? 1 : 0, 1);
        }
    }

    // rules 5 and 11
    private static void members(Class<?> in) {
        int fields = 0;
        for (Field f : in.getDeclaredFields()) {
            if (Modifier.isStatic(f.getModifiers())) {
                boolean constant = f.getType().isPrimitive() || f.getType() == String.class || f.getType().isArray();
                DUE.is(f + " is a constant", Modifier.isFinal(f.getModifiers()) && constant ? 1 : 0, 1);
            } else {
                fields++;
            }
        }
        DUE.is("fields of " + in + " are some twenty", fields <= 20 ? 1 : 0, 1);
        for (Method m : in.getDeclaredMethods()) {
            DUE.is("parameters of " + m + " are seven at most", m.getParameterCount() <= 7 ? 1 : 0, 1);
        }
    }
}

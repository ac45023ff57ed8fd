import java.io.IOException;
import java.lang.reflect.Constructor;
import java.lang.reflect.Field;
import java.lang.reflect.Method;
import java.lang.reflect.Modifier;
import java.nio.file.Files;
import java.nio.file.Path;
import java.util.ArrayList;
import java.util.Arrays;
import java.util.List;
import java.util.Set;
import java.util.TreeSet;

/** The public face: just the members that the document names, and no private one by a public one's name. */
public final class FaceTest {
    private static final String[] FACE = {
        "---- dishes and stores",
        "int dish(int,int,int,int)", "int needs(int,int,int)", "int store(int,int)", "int fail(int,boolean)",
        "int gap(int)", "int day(int)", "int look(int,int)", "int good(int,int)",
        "---- the service",
        "int choose(int)", "int leave(int)", "int lay()", "int layings()", "int place(int)", "int swap(int,int)",
        "int change()", "int serve()",
        "---- the bell",
        "int have(int,int)", "int fire(int)", "int bell()", "int fired(int,int)", "int waits()", "int hands(int)",
        "---- leavings",
        "int officer(int,int,int)", "int left(int,int)", "int eats(int,int)", "int eat()", "int last()",
        "int count(int)", "int keep(int,int,int)", "int make(int,int,int)", "long element(int,int)",
        "int copy(int,int,int,int,int)", "int weight(int)", "int toss(int)",
    };
    private static final Due DUE = new Due();

    public static void main(String[] args) throws IOException {
        Set<String> want = new TreeSet<>();
        Set<String> names = new TreeSet<>();
        for (String call : FACE) {
            if (call.endsWith(")")) {
                want.add(call);
                names.add(call.substring(call.indexOf(' ') + 1, call.indexOf('(')));
            }
        }
        methods(want);
        membersThatAreNoMethods();
        privateNames(KitchenBell.class, names);
        for (Class<?> inside : KitchenBell.class.getDeclaredClasses()) {
            privateNames(inside, names);
            DUE.is(inside + " is static", Modifier.isStatic(inside.getModifiers()) ? 1 : 0, 1);
        }
        headings();
        DUE.end();
    }

    private static void methods(Set<String> want) {
        Set<String> got = new TreeSet<>();
        for (Method m : KitchenBell.class.getDeclaredMethods()) {
            if (!Modifier.isPrivate(m.getModifiers()) && !m.isSynthetic()) {
                got.add(told(m));
                DUE.is(told(m) + " is public and of an object", m.getModifiers(), Modifier.PUBLIC);
                Class<?>[] none = {};
                Class<?>[] both = {IllegalArgumentException.class, IllegalStateException.class};
                DUE.same("what " + told(m) + " throws", Arrays.toString(m.getExceptionTypes()),
                        Arrays.toString(m.getName().equals("element") ? both : none));
            }
        }
        DUE.same("the face", got.toString(), want.toString());
    }

    private static void membersThatAreNoMethods() {
        DUE.is("the class is public and final", KitchenBell.class.getModifiers(), Modifier.PUBLIC | Modifier.FINAL);
        DUE.is("constructors", KitchenBell.class.getDeclaredConstructors().length, 1);
        for (Constructor<?> c : KitchenBell.class.getDeclaredConstructors()) {
            DUE.is("the constructor is public, without arguments", c.getParameterCount() + c.getModifiers(), Modifier.PUBLIC);
        }
        for (Field f : KitchenBell.class.getDeclaredFields()) {
            DUE.is(f + " is private", Modifier.isPrivate(f.getModifiers()) ? 1 : 0, 1);
        }
    }

    // "Ahead of the calls .. the interface says: ---- .."
    private static void headings() throws IOException {
        List<String> got = new ArrayList<>();
        List<String> want = new ArrayList<>();
        for (String line : Files.readAllLines(Path.of("src/main/java/KitchenBell.java"))) {
            if (line.startsWith("    // ----")) {
                got.add(line.trim().substring("// ".length()));
            } else if (line.startsWith("    public ") && !line.startsWith("    public KitchenBell(")) {
                got.add(line.trim().split("[ (]")[2]);
            }
        }
        for (String part : FACE) {
            want.add(part.endsWith(")") ? part.substring(part.indexOf(' ') + 1, part.indexOf('(')) : part);
        }
        DUE.same("the calls in their order under their headings", got.toString(), want.toString());
    }

    private static String told(Method m) {
        StringBuilder text = new StringBuilder(m.getReturnType() + " " + m.getName() + "(");
        for (int i = 0; i < m.getParameterCount(); i++) {
            text.append(i > 0 ? "," : "").append(m.getParameterTypes()[i]);
        }
        return text.append(")").toString();
    }

    private static void privateNames(Class<?> in, Set<String> names) {
        for (Method m : in.getDeclaredMethods()) {
            boolean clash = Modifier.isPrivate(m.getModifiers()) && names.contains(m.getName());
            DUE.is(in + "." + m.getName() + " is private by a public name", clash ? 1 : 0, 0);
        }
    }
}

import java.lang.reflect.Constructor;
import java.lang.reflect.Method;
import java.lang.reflect.Modifier;
import java.util.Set;
import java.util.TreeSet;

/** The public face: just the members that the document names, and no private one by a public one's name. */
public final class FaceTest {
    private static final String[] FACE = {
        "int dish(int,int,int,int)", "int needs(int,int,int)", "int store(int,int)", "int fail(int,boolean)",
        "int gap(int)", "int day(int)", "int look(int,int)", "int good(int,int)", "int choose(int)", "int leave(int)",
        "int lay()", "int layings()", "int place(int)", "int swap(int,int)", "int change()", "int serve()",
        "int have(int,int)", "int fire(int)", "int bell()", "int fired(int,int)", "int waits()", "int hands(int)",
        "int officer(int,int,int)", "int left(int,int)", "int eats(int,int)", "int eat()", "int last()",
        "int count(int)", "int keep(int,int,int)", "int make(int,int,int)", "long element(int,int)",
        "int copy(int,int,int,int,int)", "int weight(int)", "int toss(int)",
    };

    public static void main(String[] args) {
        Due due = new Due();
        Set<String> want = new TreeSet<>(Set.of(FACE));
        Set<String> names = new TreeSet<>();
        for (String call : FACE) {
            names.add(call.substring(call.indexOf(' ') + 1, call.indexOf('(')));
        }
        Set<String> got = new TreeSet<>();
        for (Method m : KitchenBell.class.getDeclaredMethods()) {
            if (!Modifier.isPrivate(m.getModifiers()) && !m.isSynthetic()) {
                got.add(told(m));
                due.is(told(m) + " is public", Modifier.isPublic(m.getModifiers()) ? 1 : 0, 1);
            }
        }
        due.is("the face " + got + " is " + want, got.equals(want) ? 1 : 0, 1);
        due.is("the class is public and final", KitchenBell.class.getModifiers(), Modifier.PUBLIC | Modifier.FINAL);
        for (Constructor<?> c : KitchenBell.class.getDeclaredConstructors()) {
            due.is("the constructor is public, without arguments", c.getParameterCount() + c.getModifiers(), Modifier.PUBLIC);
        }
        privateNames(due, KitchenBell.class, names);
        for (Class<?> inside : KitchenBell.class.getDeclaredClasses()) {
            privateNames(due, inside, names);
            due.is(inside + " is static", Modifier.isStatic(inside.getModifiers()) ? 1 : 0, 1);
        }
        due.end();
    }

    private static String told(Method m) {
        StringBuilder text = new StringBuilder(m.getReturnType() + " " + m.getName() + "(");
        for (int i = 0; i < m.getParameterCount(); i++) {
            text.append(i > 0 ? "," : "").append(m.getParameterTypes()[i]);
        }
        return text.append(")").toString();
    }

    private static void privateNames(Due due, Class<?> in, Set<String> names) {
        for (Method m : in.getDeclaredMethods()) {
            boolean clash = Modifier.isPrivate(m.getModifiers()) && names.contains(m.getName());
            due.is(in + "." + m.getName() + " is private by a public name", clash ? 1 : 0, 0);
        }
    }
}

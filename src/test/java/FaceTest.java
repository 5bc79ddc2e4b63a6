import java.lang.reflect.Constructor;
import java.lang.reflect.Field;
import java.lang.reflect.Method;
import java.lang.reflect.Modifier;
import java.util.Arrays;
import java.util.TreeSet;

/** The public face: its members, their exceptions, the constants, and nothing else that can be seen. */
public final class FaceTest {
    private static final String IAE = "IllegalArgumentException", ISE = "IllegalStateException";
    private static final String IOOBE = "IndexOutOfBoundsException", NSEE = "NoSuchElementException";

    public static void main(String[] args) {
        Check check = new Check();
        check.same("NONE", NeighbourDesk.NONE, -1);
        check.same("ASKED", NeighbourDesk.ASKED, 1);
        check.same("GOOD", NeighbourDesk.GOOD, 2);
        check.same("OLD", NeighbourDesk.OLD, 3);
        check.same("CHECKED", NeighbourDesk.CHECKED, 4);
        check.same("class", Modifier.toString(NeighbourDesk.class.getModifiers()), "public final");
        check.same("methods", methods(), new TreeSet<>(Arrays.asList(
                "void here(long) " + IAE + " " + ISE, "int type(long, int) " + IAE + " " + ISE,
                "void pack(int, long, int, long, int)", "int hear()", "void claim(int) " + IAE + " " + ISE,
                "boolean release()", "int send(int, int) " + IAE + " " + ISE, "int tick(int) " + IAE,
                "int count(int) " + IAE, "int entry(int) " + IOOBE, "int about(int, int) " + IAE + " " + NSEE,
                "long hardware(int) " + NSEE, "boolean knows(int)", "int waits(int, int) " + NSEE + " " + IOOBE,
                "long to(int) " + IOOBE, "int data(int) " + IOOBE, "int out(int, int) " + IOOBE,
                "int lost(int) " + IOOBE)));
        check.same("constructors", constructors(), "[public NeighbourDesk(int,int,int)]");
        check.same("fields", fields(), "[ASKED, CHECKED, GOOD, NONE, OLD]");
        check.end();
    }

    private static TreeSet<String> methods() {
        TreeSet<String> found = new TreeSet<>();
        for (Method method : NeighbourDesk.class.getDeclaredMethods()) {
            if (!Modifier.isPrivate(method.getModifiers())) {
                found.add(signature(method));
            }
        }
        return found;
    }

    private static String signature(Method method) {
        StringBuilder text = new StringBuilder();
        if (!Modifier.toString(method.getModifiers()).equals("public")) {
            text.append(Modifier.toString(method.getModifiers())).append(' ');
        }
        text.append(method.getReturnType()).append(' ').append(method.getName());
        String parameters = Arrays.toString(method.getParameterTypes());
        text.append('(').append(parameters, 1, parameters.length() - 1).append(')');
        for (Class<?> thrown : method.getExceptionTypes()) {
            text.append(' ').append(thrown.getSimpleName());
        }
        return text.toString();
    }

    private static String constructors() {
        TreeSet<String> found = new TreeSet<>();
        for (Constructor<?> constructor : NeighbourDesk.class.getDeclaredConstructors()) {
            found.add(constructor.toString());
        }
        return found.toString();
    }

    private static String fields() {
        TreeSet<String> found = new TreeSet<>();
        for (Field field : NeighbourDesk.class.getDeclaredFields()) {
            if (!Modifier.isPrivate(field.getModifiers())) {
                found.add(field.getName());
            }
        }
        return found.toString();
    }
}

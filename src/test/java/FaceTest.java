import java.lang.reflect.Constructor;
import java.lang.reflect.Field;
import java.lang.reflect.Method;
import java.lang.reflect.Modifier;
import java.util.Arrays;
import java.util.TreeSet;

/** The face is that of the document, and nothing else can be seen from outside. */
public final class FaceTest {
    private static final String MISSING = "NoSuchElementException";
    private static final String ARGUMENT = "IllegalArgumentException";
    private static final String STATE = "IllegalStateException";
    private static final String FULL = "UnsupportedOperationException";

    private static final String[] FACE = {
        face("int", "belt", "int int", ARGUMENT, FULL),
        face("int", "join", "int int int int", MISSING, ARGUMENT),
        face("void", "run", "int int boolean", MISSING, ARGUMENT),
        face("void", "gaps", "int", ARGUMENT),
        face("int", "scanner", "int int int", MISSING, ARGUMENT, FULL),
        face("int", "item", "int int", MISSING, ARGUMENT, FULL),
        face("int", "divert", "int int", MISSING, ARGUMENT, STATE),
        face("int", "step", "int", ARGUMENT),
        face("int", "edge", "int int", MISSING, ARGUMENT),
        face("int", "slip", "int int", MISSING, ARGUMENT, STATE),
        face("void", "take", "int", MISSING, STATE),
        face("int", "clean", "int", MISSING, STATE),
        face("int", "gap", "int int", MISSING, STATE),
        face("int", "told", "int int", MISSING, ARGUMENT),
        face("int", "known", "int int", MISSING, ARGUMENT),
        face("int", "order", "int", MISSING),
        face("int", "mean", "", "ArithmeticException"),
        face("int", "count", "int"),
    };

    public static void main(String[] args) {
        Check check = new Check();
        methods(check);
        constructors(check);
        fields(check);
        nested(check);
        check.end();
    }

    private static String face(String answer, String name, String parameters, String... thrown) {
        return answer + " " + name + "(" + parameters + ")" + Arrays.toString(thrown);
    }

    private static String names(Class<?>[] classes) {
        StringBuilder all = new StringBuilder();
        for (Class<?> c : classes) {
            all.append(all.length() == 0 ? "" : " ").append(c.getSimpleName());
        }
        return all.toString();
    }

    private static void methods(Check check) {
        TreeSet<String> found = new TreeSet<>();
        TreeSet<String> publicNames = new TreeSet<>();
        TreeSet<String> privateNames = new TreeSet<>();
        for (Method m : BeltRows.class.getDeclaredMethods()) {
            if (Modifier.isPrivate(m.getModifiers())) {
                privateNames.add(m.getName());
                continue;
            }
            publicNames.add(m.getName());
            check.is(m.getName() + " is public and no more", m.getModifiers(), Modifier.PUBLIC);
            String[] thrown = Arrays.stream(m.getExceptionTypes()).map(Class::getSimpleName).toArray(String[]::new);
            found.add(face(m.getReturnType().getSimpleName(), m.getName(), names(m.getParameterTypes()), thrown));
        }
        TreeSet<String> due = new TreeSet<>(Arrays.asList(FACE));
        if (!found.equals(due)) {
            check.complain("the face is " + found + ", due is " + due);
        }
        privateNames.retainAll(publicNames);
        check.is("private methods with public names " + privateNames, privateNames.size(), 0);
    }

    private static void constructors(Check check) {
        Constructor<?>[] all = BeltRows.class.getDeclaredConstructors();
        check.is("constructors", all.length, 1);
        check.is("a public constructor", all[0].getModifiers(), Modifier.PUBLIC);
        check.is("its parameters", all[0].getParameterCount(), 0);
        check.is("the class", BeltRows.class.getModifiers(), Modifier.PUBLIC | Modifier.FINAL);
    }

    private static void fields(Check check) {
        for (Field f : BeltRows.class.getDeclaredFields()) {
            check.is(f.getName() + " is private", f.getModifiers() & Modifier.PRIVATE, Modifier.PRIVATE);
            boolean open = Modifier.isStatic(f.getModifiers()) && !Modifier.isFinal(f.getModifiers());
            check.is(f.getName() + " is no static state", open ? 1 : 0, 0);
        }
    }

    private static void nested(Check check) {
        for (Class<?> c : BeltRows.class.getDeclaredClasses()) {
            int wanted = Modifier.STATIC | Modifier.PRIVATE;
            check.is(c.getName() + " is static and private", c.getModifiers() & wanted, wanted);
        }
    }
}

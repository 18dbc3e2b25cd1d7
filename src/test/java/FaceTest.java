import java.lang.reflect.Constructor;
import java.lang.reflect.Field;
import java.lang.reflect.Method;
import java.lang.reflect.Modifier;
import java.util.Arrays;
import java.util.Set;
import java.util.TreeSet;

/** The public face, and those rules of LANGUAGE.md that can be seen from outside. */
public final class FaceTest {
    private static final String[] CONSTANTS = {
        "SET 0", "ADD 1", "SUB 2", "MUL 3", "FETCH 4", "PUT 5", "IFPOS 6", "GOTO 7", "HALT 8",
        "BAD -1", "FULL -2", "NONE -3"
    };
    private static final String[] METHODS = {
        "int emit[int, int, int, int]", "int input[int]", "int steps[]", "int goTo[int]", "int time[]",
        "int variable[int]", "int cell[int]", "int lastWrite[int, int]", "int runTo[int]", "int backTo[int]",
        "int backBeforeWrite[int]"
    };
    private static final int MOST_FIELDS = 40;
    private static final int MOST_PARAMETERS = 7;

    private static int wrong = 0;

    public static void main(String[] args) throws IllegalAccessException {
        Class<?> c = TraceDebugger.class;
        due("modifiers", Modifier.toString(c.getModifiers()), "public final");
        due("superclass", c.getSuperclass(), Object.class);
        due("interfaces", c.getInterfaces().length, 0);
        due("nested classes", c.getDeclaredClasses().length, 0);
        due("package", c.getPackageName(), "");
        constructors(c);
        fields(c);
        methods(c);
        if (wrong != 0) {
            System.exit(1);
        }
    }

    private static void constructors(Class<?> c) {
        Constructor<?>[] constructors = c.getDeclaredConstructors();
        due("constructors", constructors.length, 1);
        due("the constructor", constructors[0].toString(), "public TraceDebugger()");
    }

    private static void fields(Class<?> c) throws IllegalAccessException {
        Set<String> constants = new TreeSet<>();
        int ownFields = 0;
        for (Field f : c.getDeclaredFields()) {
            String name = f.getName();
            Class<?> type = f.getType();
            if (Modifier.isStatic(f.getModifiers())) {
                due(name + " is final", Modifier.isFinal(f.getModifiers()), true);
                due(name + " is int or long", type == int.class || type == long.class, true);
            } else {
                ownFields++;
                due(name + " is private", Modifier.isPrivate(f.getModifiers()), true);
                due(name + " holds numbers", holdsNumbers(type), true);
            }
            if (!Modifier.isPrivate(f.getModifiers())) {
                due("modifiers of " + name, Modifier.toString(f.getModifiers()), "public static final");
                constants.add(name + " " + f.getInt(null));
            }
        }
        due("constants", constants, new TreeSet<>(Arrays.asList(CONSTANTS)));
        due("few fields", ownFields <= MOST_FIELDS, true);
    }

    private static boolean holdsNumbers(Class<?> type) {
        Class<?> element = type.isArray() ? type.getComponentType() : type;
        return element.isPrimitive() && element != float.class && element != double.class;
    }

    private static void methods(Class<?> c) {
        Set<String> open = new TreeSet<>();
        Set<String> openNames = new TreeSet<>();
        for (Method m : c.getDeclaredMethods()) {
            due("few parameters of " + m, m.getParameterCount() <= MOST_PARAMETERS, true);
            if (!Modifier.isPrivate(m.getModifiers())) {
                due("modifiers of " + m, Modifier.toString(m.getModifiers()), "public");
                open.add(m.getReturnType() + " " + m.getName() + Arrays.toString(m.getParameterTypes()));
                openNames.add(m.getName());
            }
        }
        due("methods", open, new TreeSet<>(Arrays.asList(METHODS)));
        for (Method m : c.getDeclaredMethods()) {
            if (Modifier.isPrivate(m.getModifiers())) {
                due(m + " bears a public name", openNames.contains(m.getName()), false);
            }
        }
    }

    private static void due(String what, Object got, Object want) {
        if (!want.equals(got)) {
            wrong++;
            System.out.println(what + ": " + got + ", due is " + want);
        }
    }
}

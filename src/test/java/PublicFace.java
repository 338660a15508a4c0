import java.lang.reflect.Constructor;
import java.lang.reflect.Field;
import java.lang.reflect.Method;
import java.lang.reflect.Modifier;
import java.util.Arrays;
import java.util.Map;
import java.util.Set;
import java.util.TreeSet;

/** "The public face": just the members that stand there, with these names, parameters and types. */
public final class PublicFace {
    private static final Set<String> METHODS = Set.of("int token(int, int)", "int wipe()", "int wrong()", "int put(int, int)",
        "void zero()", "int run(int, int)", "int word(int)", "int counter(int)", "int variable(int, int)", "int ran(int)",
        "int steps(int)", "int done(int)");
    private static final Map<String, Integer> CONSTANTS = Map.of("OK", 0, "OVER", 1, "NONE", -1);
    private static final int CONSTANT = Modifier.PUBLIC | Modifier.STATIC | Modifier.FINAL;

    public static void main(String[] args) {
        Checks.begin();
        face("public final class WarpDesk", PublicFace::theClass);
        face("public static final int OK = 0, OVER = 1, NONE = -1", PublicFace::constants);
        face("public WarpDesk()", PublicFace::constructor);
        face("public int token .. public int done", PublicFace::methods);
        Checks.end();
    }

    private static void theClass() {
        Checks.due("modifiers", WarpDesk.class.getModifiers(), Modifier.PUBLIC | Modifier.FINAL);
        yes("no package", WarpDesk.class.getPackageName().isEmpty());
        yes("no other class above it", WarpDesk.class.getSuperclass() == Object.class);
        Checks.due("interfaces", WarpDesk.class.getInterfaces().length, 0);
        Checks.due("types inside it", WarpDesk.class.getDeclaredClasses().length, 0);
    }

    private static void constants() {
        Set<String> seen = new TreeSet<>();
        for (Field field : WarpDesk.class.getDeclaredFields()) {
            if (!Modifier.isPrivate(field.getModifiers())) {
                seen.add(field.getName());
                Checks.due("modifiers of " + field.getName(), field.getModifiers(), CONSTANT);
                yes("the type of " + field.getName() + " is int", field.getType() == int.class);
                Checks.due(field.getName(), valueOf(field), CONSTANTS.getOrDefault(field.getName(), Integer.MIN_VALUE));
            }
        }
        yes("the constants are " + seen, seen.equals(CONSTANTS.keySet()));
    }

    private static int valueOf(Field field) {
        try {
            return field.getInt(null);
        } catch (IllegalAccessException fault) {
            throw new IllegalStateException(fault);
        }
    }

    private static void constructor() {
        Constructor<?>[] all = WarpDesk.class.getDeclaredConstructors();
        Checks.due("constructors", all.length, 1);
        Checks.due("modifiers", all[0].getModifiers(), Modifier.PUBLIC);
        Checks.due("parameters", all[0].getParameterCount(), 0);
        Checks.due("what it throws", all[0].getExceptionTypes().length, 0);
    }

    private static void methods() {
        Set<String> seen = new TreeSet<>();
        for (Method method : WarpDesk.class.getDeclaredMethods()) {
            if (!Modifier.isPrivate(method.getModifiers())) {
                String types = Arrays.toString(method.getParameterTypes()).replace('[', '(').replace(']', ')');
                String written = method.getReturnType() + " " + method.getName() + types;
                seen.add(written);
                Checks.due("modifiers of " + written, method.getModifiers(), Modifier.PUBLIC);
                Checks.due("what " + written + " throws", method.getExceptionTypes().length, 0);
            }
        }
        yes("the methods are " + seen, seen.equals(METHODS));
    }

    private static void yes(String what, boolean holds) {
        Checks.due(what, holds ? 1 : 0, 1);
    }

    private static void face(String words, Runnable test) {
        Checks.holds("The public face", words, test);
    }
}

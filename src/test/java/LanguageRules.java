import java.io.IOException;
import java.lang.reflect.Constructor;
import java.lang.reflect.Field;
import java.lang.reflect.Method;
import java.lang.reflect.Modifier;
import java.nio.file.Files;
import java.nio.file.Path;
import java.util.ArrayDeque;
import java.util.Arrays;
import java.util.Deque;
import java.util.HashSet;
import java.util.LinkedHashMap;
import java.util.Map;
import java.util.Set;
import java.util.TreeSet;
import java.util.regex.Matcher;
import java.util.regex.Pattern;

/** The rules of LANGUAGE.md that can be seen in the class and in its text; it leans on the text's layout. */
public final class LanguageRules {
    private static final String FACE = "[public int counter(int), public int done(int), "
        + "public int put(int,int), public int ran(int), public int run(int,int), public int steps(int), "
        + "public int token(int,int), public int variable(int,int), public int wipe(), "
        + "public int word(int), public int wrong(), public void zero()]";
    private static final Set<String> NUMBERS = Set.of("int", "long", "short", "byte", "char", "boolean");
    private static final Set<String> NOT_CALLS = Set.of("if", "for", "while", "switch", "return");

    private static int failures = 0;

    public static void main(String[] args) throws IOException {
        String text = Files.readString(Path.of("src/main/java/WarpDesk.java"));
        String code = text.replaceAll("(?s)/\\*.*?\\*/", "").replaceAll("//[^\n]*", "");
        members();
        fields();
        forbiddenWords(code);
        arraysAreMadeInFields(code);
        callsInArguments(code);
        methods(code);
        System.out.println(failures == 0 ? "the rules are kept" : failures + " rules are broken");
        if (failures != 0) {
            System.exit(1);
        }
    }

    private static void members() {
        Set<String> open = new TreeSet<>();
        Set<String> openNames = new HashSet<>();
        for (Method method : WarpDesk.class.getDeclaredMethods()) {
            if (!Modifier.isPrivate(method.getModifiers())) {
                open.add(method.toString().replace("WarpDesk.", ""));
                openNames.add(method.getName());
            }
        }
        for (Method method : WarpDesk.class.getDeclaredMethods()) {
            boolean hidden = Modifier.isPrivate(method.getModifiers());
            rule(1, !hidden || !openNames.contains(method.getName()), "the private name " + method.getName());
            rule(2, isNumber(method.getReturnType()) || method.getReturnType() == void.class, "answer of " + method);
            rule(10, method.getParameterCount() <= 7, "parameters of " + method);
        }
        rule(1, open.toString().equals(FACE), "the face is " + open);
        Constructor<?>[] constructors = WarpDesk.class.getDeclaredConstructors();
        rule(1, constructors.length == 1 && constructors[0].toString().equals("public WarpDesk()"), "the constructor");
        int modifiers = WarpDesk.class.getModifiers();
        rule(1, Modifier.isFinal(modifiers) && Modifier.isPublic(modifiers), "public and final");
        rule(1, WarpDesk.class.getDeclaredClasses().length == 0, "nested classes");
    }

    private static boolean isNumber(Class<?> type) {
        return NUMBERS.contains(type.getName());
    }

    private static void fields() {
        int held = 0;
        for (Field field : WarpDesk.class.getDeclaredFields()) {
            Class<?> type = field.getType();
            int modifiers = field.getModifiers();
            boolean constant = Modifier.isStatic(modifiers);
            boolean inFace = constant && Set.of("OK", "OVER", "NONE").contains(field.getName());
            rule(1, inFace ? Modifier.isPublic(modifiers) : Modifier.isPrivate(modifiers), "the field " + field);
            rule(2, isNumber(type) || type.isArray() && isNumber(type.getComponentType()), "the type of " + field);
            rule(5, !constant || Modifier.isFinal(modifiers) && (type == int.class || type == long.class), "static " + field);
            held += constant ? 0 : 1;
        }
        rule(10, held <= 40, "there are " + held + " fields");
    }

    private static void forbiddenWords(String code) {
        String[] words = {"import", "package", "float", "double", "String", "Object", "Math", "Integer", "Long", "System",
            "Arrays", "null", "throw", "try", "catch", "synchronized", "assert", "instanceof", "protected", "enum", "record",
            "interface", "this", "var", "toString", "equals", "hashCode", "getClass", "clone", "wait", "notify"};
        Set<String> used = new HashSet<>(Arrays.asList(code.split("\\W+")));
        for (String word : words) {
            rule(3, !used.contains(word), "the word " + word);
        }
        rule(6, !code.contains("->") && !code.contains("::"), "lambda or method reference");
        rule(3, !code.contains("\"") && !code.contains("@"), "text or annotation");
        rule(3, !code.contains("."), "a member of something else");
    }

    private static void arraysAreMadeInFields(String code) {
        int made = matches(code, "\\bnew\\b");
        int inFields = matches(code, "(?m)^    private final \\w+\\[\\] \\w+ = new \\w+\\[[A-Z_]+\\];$");
        rule(4, made == inFields, made + " arrays, " + inFields + " of them in fields");
    }

    private static int matches(String code, String pattern) {
        return (int) Pattern.compile(pattern).matcher(code).results().count();
    }

    private static void callsInArguments(String code) {
        Deque<Boolean> open = new ArrayDeque<>();
        for (int i = 0; i < code.length(); i++) {
            if (code.charAt(i) == ')') {
                open.pop();
            } else if (code.charAt(i) == '(') {
                String name = code.substring(Math.max(0, i - 40), i).replaceAll("(?s).*\\W", "");
                boolean call = !name.isEmpty() && !NOT_CALLS.contains(name);
                rule(10, !(call && open.contains(true)), name + " is called inside the arguments of a call");
                open.push(call);
            }
        }
    }

    private static void methods(String code) {
        Map<String, String> bodies = new LinkedHashMap<>();
        Matcher matcher = Pattern.compile("(?sm)^    (?:public|private)[^=;{]*?(\\w+)\\([^)]*\\) \\{\n(.*?)^    \\}$").matcher(code);
        while (matcher.find()) {
            bodies.put(matcher.group(1), matcher.group(2));
            long lines = matcher.group(2).lines().count();
            rule(10, lines <= 58, matcher.group(1) + " has " + lines + " lines");
        }
        rule(10, bodies.size() == WarpDesk.class.getDeclaredMethods().length + 1, "all methods are seen");
        for (String name : bodies.keySet()) {
            int depth = depth(name, bodies, 1);
            rule(depth > bodies.size() ? 8 : 10, depth <= 6, name + " calls " + depth + " deep");
        }
    }

    private static int depth(String name, Map<String, String> bodies, int above) {
        int deepest = above;
        if (above > bodies.size()) {
            return above;
        }
        for (String other : bodies.keySet()) {
            if (matches(bodies.get(name), "\\b" + other + "\\(") > 0) {
                deepest = Math.max(deepest, depth(other, bodies, above + 1));
            }
        }
        return deepest;
    }

    private static void rule(int number, boolean kept, String what) {
        if (!kept) {
            failures++;
            System.out.println("rule " + number + ": " + what);
        }
    }
}

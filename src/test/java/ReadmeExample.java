import java.io.IOException;
import java.lang.reflect.Method;
import java.nio.file.Files;
import java.nio.file.Path;
import java.util.Arrays;
import java.util.Map;
import java.util.Set;
import java.util.TreeSet;
import java.util.regex.Matcher;
import java.util.regex.Pattern;

/** The example in README.md, call by call: each answer that stands there is the one that the class gives. */
public final class ReadmeExample {
    private static final Path FILE = Path.of("README.md");
    private static final String FIRST = "WarpDesk desk = new WarpDesk();";
    private static final Pattern CALL = Pattern.compile("desk\\.(\\w+)\\(([-\\d, ]*)\\);\\s+//(?: (-?\\d+|OK|OVER|NONE)\\b)?.*");
    private static final Map<String, Integer> CONSTANTS = Map.of("OK", WarpDesk.OK, "OVER", WarpDesk.OVER, "NONE", WarpDesk.NONE);
    private static final Set<String> NAMES = Set.of("token", "wipe", "wrong", "put", "zero", "run", "word", "counter", "variable",
        "ran", "steps", "done");

    private static final WarpDesk desk = new WarpDesk();
    private static final Set<String> seen = new TreeSet<>();

    public static void main(String[] args) {
        Checks.begin();
        Checks.holds("README.md", "Behind each call stands what it answers", ReadmeExample::followExample);
        Checks.end();
    }

    private static void followExample() {
        String[] lines = example().split("\n");
        Checks.due("the first line: " + lines[0], lines[0].equals(FIRST) ? 1 : 0, 1);
        for (int i = 1; i < lines.length; i++) {
            follow(lines[i]);
        }
        Checks.due("the calls in it are " + seen, seen.equals(NAMES) ? 1 : 0, 1);
    }

    private static String example() {
        try {
            String text = Files.readString(FILE);
            int start = text.indexOf("```java\n") + "```java\n".length();
            return text.substring(start, text.indexOf("```", start));
        } catch (IOException fault) {
            throw new IllegalStateException(fault);
        }
    }

    private static void follow(String line) {
        Matcher call = CALL.matcher(line);
        if (!call.matches()) {
            Checks.fail("no call with its answer: " + line);
            return;
        }
        seen.add(call.group(1));
        Integer got = answer(call.group(1), call.group(2));
        String written = call.group(3);
        Checks.due("an answer stands in: " + line, written == null ? 0 : 1, got == null ? 0 : 1);
        if (got != null && written != null) {
            Integer constant = CONSTANTS.get(written);
            Checks.due(line, got, constant != null ? constant : Integer.valueOf(written));
        }
    }

    // null for a call that answers nothing
    private static Integer answer(String name, String numbers) {
        Object[] given = numbers.isEmpty() ? new Object[0]
            : Arrays.stream(numbers.split(", ")).map(Integer::valueOf).toArray();
        Class<?>[] types = new Class<?>[given.length];
        Arrays.fill(types, int.class);
        try {
            Method method = WarpDesk.class.getMethod(name, types);
            return (Integer) method.invoke(desk, given);
        } catch (ReflectiveOperationException fault) {
            throw new IllegalStateException(name + "(" + numbers + ")", fault);
        }
    }
}

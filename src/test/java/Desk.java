import java.util.Map;

/**
 * A WarpDesk that takes its program as text, such as "SET:0 NUM:1" (kind:value, 0 where no value is given).
 * The document leaves free what an object answers after its 512th call, so a test that goes on is itself at fault.
 */
final class Desk {
    private static final int MAX_CALLS = 512;
    private static final Map<String, Integer> KINDS = Map.ofEntries(
        Map.entry("SET", 0), Map.entry("STORE", 1), Map.entry("ADD", 2), Map.entry("IF", 3), Map.entry("ELSE", 4),
        Map.entry("END", 5), Map.entry("WHILE", 6), Map.entry("BARRIER", 7), Map.entry("RETURN", 8),
        Map.entry("NUM", 10), Map.entry("VAR", 11), Map.entry("THREAD", 12), Map.entry("SIZE", 13),
        Map.entry("ARG", 14), Map.entry("WORD", 15), Map.entry("COUNTER", 16), Map.entry("+", 20),
        Map.entry("-", 21), Map.entry("*", 22), Map.entry("/", 23), Map.entry("%", 24), Map.entry("=", 25),
        Map.entry("<", 26), Map.entry("AND", 27), Map.entry("OR", 28), Map.entry("NOT", 29), Map.entry("NEG", 30),
        Map.entry("SELECT", 31));

    private final WarpDesk desk = new WarpDesk();
    private int calls = 0;

    static Desk with(String text) {
        Desk made = new Desk();
        made.load(text);
        return made;
    }

    Desk load(String text) {
        if (text.isBlank()) {
            return this;
        }
        for (String part : text.trim().split(" +")) {
            String[] pair = part.split(":");
            int value = pair.length > 1 ? Integer.parseInt(pair[1]) : 0;
            if (token(KINDS.get(pair[0]), value) == WarpDesk.NONE) {
                throw new IllegalStateException(part + " was refused in " + text);
            }
        }
        return this;
    }

    /** Runs, where the answer is not what the test is about. */
    Desk after(int n, int arg) {
        run(n, arg);
        return this;
    }

    /** All that can be asked of the memory and the latest run; 427 calls. */
    int[] all() {
        int[] seen = new int[427];
        int at = 0;
        for (int i = 0; i < 64; i++) {
            seen[at++] = word(i);
            seen[at++] = counter(i);
        }
        for (int k = -1; k <= 64; k++) {
            seen[at++] = done(k);
        }
        for (int thread = 0; thread < 32; thread++) {
            for (int v = 0; v < 6; v++) {
                seen[at++] = variable(thread, v);
            }
        }
        for (int thread = -1; thread <= 32; thread++) {
            seen[at++] = steps(thread);
        }
        for (int what = -1; what <= 5; what++) {
            seen[at++] = ran(what);
        }
        return seen;
    }

    int token(int kind, int value) {
        return counted().token(kind, value);
    }

    int wipe() {
        return counted().wipe();
    }

    int wrong() {
        return counted().wrong();
    }

    int put(int index, int v) {
        return counted().put(index, v);
    }

    void zero() {
        counted().zero();
    }

    int run(int n, int arg) {
        return counted().run(n, arg);
    }

    int word(int index) {
        return counted().word(index);
    }

    int counter(int index) {
        return counted().counter(index);
    }

    int variable(int thread, int v) {
        return counted().variable(thread, v);
    }

    int ran(int what) {
        return counted().ran(what);
    }

    int steps(int thread) {
        return counted().steps(thread);
    }

    int done(int k) {
        return counted().done(k);
    }

    private WarpDesk counted() {
        calls++;
        if (calls > MAX_CALLS) {
            throw new IllegalStateException("the test goes beyond " + MAX_CALLS + " calls on one object");
        }
        return desk;
    }
}

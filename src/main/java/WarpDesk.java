/** Kernels run by up to 32 threads, phase by phase; README.md tells how to use it. */
public final class WarpDesk {
    public static final int OK = 0, OVER = 1, NONE = -1;

    private static final int SET = 0, STORE = 1, ADD = 2, IF = 3, ELSE = 4, END = 5;
    private static final int WHILE = 6, BARRIER = 7, RETURN = 8;
    private static final int NUM = 10, VAR = 11, THREAD = 12, SIZE = 13, ARG = 14;
    private static final int WORD = 15, COUNTER = 16;
    private static final int PLUS = 20, MINUS = 21, TIMES = 22, DIVIDE = 23, REST = 24;
    private static final int EQUAL = 25, LESS = 26, AND = 27, OR = 28;
    private static final int NOT = 29, NEG = 30, SELECT = 31;

    private static final int MAX_TOKENS = 64;
    private static final int MAX_EXPRESSION = 16;
    private static final int MAX_THREADS = 32;
    private static final int MAX_STEPS = 300;
    private static final int VARIABLES = 6;
    private static final int ALL_VARIABLES = 192;
    private static final int CELLS = 64;
    private static final int CELL_MASK = 63;
    // Two more than an expression can fill: an operator looks at three operands, whether it has them or not.
    private static final int STACK = 18;

    private final int[] kinds = new int[MAX_TOKENS];
    private final int[] values = new int[MAX_TOKENS];
    private int count;

    // What a look at the grammar leaves behind: where IF and WHILE go for a no, and where ELSE and END go.
    private final int[] jumps = new int[MAX_TOKENS];
    private final int[] opened = new int[MAX_TOKENS];
    private int openBlocks;
    private int expressionsDue;
    private int operandsDue;
    private int expressionLength;

    private final int[] words = new int[CELLS];
    private final int[] counters = new int[CELLS];

    // What a phase gathers until its end; storers and readers hold a bit for each thread.
    private final int[] stored = new int[CELLS];
    private final int[] storers = new int[CELLS];
    private final int[] readers = new int[CELLS];
    private final int[] added = new int[CELLS];

    private final int[] operators = new int[STACK];
    private final int[] operandsMissing = new int[STACK];
    private final int[] operands = new int[STACK];
    private int behindExpression;

    private final int[] variables = new int[ALL_VARIABLES];
    private final int[] places = new int[MAX_THREADS];
    private final int[] stepCounts = new int[MAX_THREADS];
    private final boolean[] finished = new boolean[MAX_THREADS];
    private final int[] doneCounts = new int[MAX_TOKENS];
    private int threads;
    private int argument;
    private int going;
    private int phases;
    private int races;
    private boolean over;

    public WarpDesk() {
    }

    public int token(int kind, int value) {
        if (!isKind(kind) || count >= MAX_TOKENS) {
            return NONE;
        }
        if ((kind == SET || kind == VAR) && !isVariable(value)) {
            return NONE;
        }
        kinds[count] = kind;
        values[count] = value;
        count++;
        return count;
    }

    public int wipe() {
        int before = count;
        count = 0;
        return before;
    }

    public int wrong() {
        return firstFault();
    }

    public int put(int index, int v) {
        int cell = index & CELL_MASK;
        int before = words[cell];
        words[cell] = v;
        return before;
    }

    public void zero() {
        for (int cell = 0; cell < CELLS; cell++) {
            words[cell] = 0;
            counters[cell] = 0;
        }
    }

    public int run(int n, int arg) {
        if (n < 1 || n > MAX_THREADS || firstFault() != NONE) {
            return NONE;
        }
        startRun(n, arg);
        // A phase that is not the last costs each thread that goes on a BARRIER, so there is one phase more than steps.
        for (int phase = 0; phase <= MAX_STEPS && going > 0; phase++) {
            for (int thread = 0; thread < n; thread++) {
                if (!finished[thread]) {
                    advance(thread);
                }
            }
            settle();
            phases++;
        }
        return over ? OVER : OK;
    }

    public int word(int index) {
        return words[index & CELL_MASK];
    }

    public int counter(int index) {
        return counters[index & CELL_MASK];
    }

    public int variable(int thread, int v) {
        if (!hasThread(thread) || !isVariable(v)) {
            return 0;
        }
        return variables[thread * VARIABLES + v];
    }

    public int ran(int what) {
        switch (what) {
            case 0: return phases;
            case 1: return allSteps();
            case 2: return mostSteps();
            case 3: return races;
            case 4: return threads;
            default: return 0;
        }
    }

    public int steps(int thread) {
        return hasThread(thread) ? stepCounts[thread] : 0;
    }

    public int done(int k) {
        return k >= 0 && k < MAX_TOKENS ? doneCounts[k] : 0;
    }

    private static boolean isKind(int kind) {
        return kind >= SET && kind <= RETURN
            || kind >= NUM && kind <= COUNTER
            || kind >= PLUS && kind <= SELECT;
    }

    private static boolean isVariable(int v) {
        return v >= 0 && v < VARIABLES;
    }

    // Before the first run there are no threads, so that all questions about one answer 0.
    private boolean hasThread(int thread) {
        return thread >= 0 && thread < threads;
    }

    private int allSteps() {
        int sum = 0;
        for (int thread = 0; thread < threads; thread++) {
            sum += stepCounts[thread];
        }
        return sum;
    }

    private int mostSteps() {
        int most = 0;
        for (int thread = 0; thread < threads; thread++) {
            if (stepCounts[thread] > most) {
                most = stepCounts[thread];
            }
        }
        return most;
    }

    // ---- the grammar ----

    private static int expressionsOf(int kind) {
        switch (kind) {
            case SET: case IF: case WHILE: return 1;
            case STORE: case ADD: return 2;
            default: return 0;
        }
    }

    private static int operandsOf(int kind) {
        switch (kind) {
            case NUM: case VAR: case THREAD: case SIZE: case ARG: return 0;
            case WORD: case COUNTER: case NOT: case NEG: return 1;
            case SELECT: return 3;
            default: return 2;
        }
    }

    private int firstFault() {
        openBlocks = 0;
        expressionsDue = 0;
        operandsDue = 0;
        for (int at = 0; at < count; at++) {
            boolean fits = operandsDue > 0 ? takeInExpression(at) : takeAsStatement(at);
            if (!fits) {
                return at;
            }
        }
        return operandsDue > 0 || openBlocks > 0 ? count : NONE;
    }

    private boolean takeInExpression(int at) {
        if (kinds[at] < NUM || expressionLength >= MAX_EXPRESSION) {
            return false;
        }
        expressionLength++;
        operandsDue += operandsOf(kinds[at]) - 1;
        if (operandsDue == 0) {
            beginExpressionIfDue();
        }
        return true;
    }

    private boolean takeAsStatement(int at) {
        int kind = kinds[at];
        if (kind >= NUM) {
            return false;
        }
        if (kind == ELSE) {
            return takeElse(at);
        }
        if (kind == END) {
            return takeEnd(at);
        }
        if (kind == IF || kind == WHILE) {
            opened[openBlocks] = at;
            openBlocks++;
        }
        expressionsDue = expressionsOf(kind);
        beginExpressionIfDue();
        return true;
    }

    private void beginExpressionIfDue() {
        if (expressionsDue > 0) {
            expressionsDue--;
            operandsDue = 1;
            expressionLength = 0;
        }
    }

    private boolean takeElse(int at) {
        if (openBlocks == 0) {
            return false;
        }
        int opener = opened[openBlocks - 1];
        if (kinds[opener] != IF) {
            return false;
        }
        jumps[opener] = at + 1;
        // The ELSE takes the place of its IF, so that a second ELSE finds no IF there.
        opened[openBlocks - 1] = at;
        return true;
    }

    private boolean takeEnd(int at) {
        if (openBlocks == 0) {
            return false;
        }
        openBlocks--;
        int opener = opened[openBlocks];
        jumps[opener] = at + 1;
        jumps[at] = kinds[opener] == WHILE ? opener : at + 1;
        return true;
    }

    // ---- the run ----

    private void startRun(int n, int arg) {
        threads = n;
        argument = arg;
        going = n;
        phases = 0;
        races = 0;
        over = false;
        for (int thread = 0; thread < MAX_THREADS; thread++) {
            places[thread] = 0;
            stepCounts[thread] = 0;
            finished[thread] = false;
        }
        for (int i = 0; i < ALL_VARIABLES; i++) {
            variables[i] = 0;
        }
        for (int at = 0; at < MAX_TOKENS; at++) {
            doneCounts[at] = 0;
        }
    }

    private void advance(int thread) {
        for (int i = 0; i <= MAX_STEPS; i++) {
            int at = statementFrom(places[thread]);
            if (at >= count) {
                finish(thread);
                return;
            }
            if (stepCounts[thread] >= MAX_STEPS) {
                over = true;
                finish(thread);
                return;
            }
            stepCounts[thread]++;
            doneCounts[at]++;
            places[thread] = doStatement(thread, at);
            if (kinds[at] == RETURN) {
                finish(thread);
                return;
            }
            if (kinds[at] == BARRIER) {
                return;
            }
        }
    }

    private void finish(int thread) {
        finished[thread] = true;
        going--;
    }

    // ELSE and END are no statements: a thread passes them without a step, and may so come to the program's end.
    private int statementFrom(int place) {
        int at = place;
        for (int hops = 0; hops < MAX_TOKENS && at < count; hops++) {
            if (kinds[at] != ELSE && kinds[at] != END) {
                return at;
            }
            at = jumps[at];
        }
        return at;
    }

    private int doStatement(int thread, int at) {
        int kind = kinds[at];
        if (kind == BARRIER || kind == RETURN) {
            return at + 1;
        }
        int first = evaluate(thread, at + 1);
        if (kind == SET) {
            variables[thread * VARIABLES + values[at]] = first;
            return behindExpression;
        }
        if (kind == IF || kind == WHILE) {
            return first != 0 ? behindExpression : jumps[at];
        }
        int second = evaluate(thread, behindExpression);
        int cell = first & CELL_MASK;
        if (kind == STORE) {
            stored[cell] = second;
            storers[cell] |= 1 << thread;
        } else {
            added[cell] += second;
        }
        return behindExpression;
    }

    private void settle() {
        for (int cell = 0; cell < CELLS; cell++) {
            if (storers[cell] != 0) {
                words[cell] = stored[cell];
                int users = storers[cell] | readers[cell];
                boolean several = (users & (users - 1)) != 0;
                if (several) {
                    races++;
                }
            }
            counters[cell] += added[cell];
            storers[cell] = 0;
            readers[cell] = 0;
            added[cell] = 0;
        }
    }

    // ---- expressions ----

    private int evaluate(int thread, int start) {
        int waiting = 0;
        int held = 0;
        behindExpression = start;
        for (int length = 0; length < MAX_EXPRESSION && behindExpression < count; length++) {
            int at = behindExpression;
            behindExpression++;
            int needed = operandsOf(kinds[at]);
            if (needed > 0) {
                operators[waiting] = kinds[at];
                operandsMissing[waiting] = needed;
                waiting++;
                continue;
            }
            operands[held] = leaf(thread, at);
            held++;
            boolean complete = true;
            for (int top = waiting - 1; top >= 0 && complete; top--) {
                operandsMissing[top]--;
                complete = operandsMissing[top] == 0;
                if (complete) {
                    int base = held - operandsOf(operators[top]);
                    operands[base] = operate(thread, operators[top], base);
                    held = base + 1;
                    waiting = top;
                }
            }
            if (waiting == 0) {
                break;
            }
        }
        return operands[0];
    }

    private int leaf(int thread, int at) {
        switch (kinds[at]) {
            case NUM: return values[at];
            case VAR: return variables[thread * VARIABLES + values[at]];
            case THREAD: return thread;
            case SIZE: return threads;
            default: return argument;
        }
    }

    private int operate(int thread, int kind, int base) {
        int a = operands[base];
        int b = operands[base + 1];
        int c = operands[base + 2];
        switch (kind) {
            case WORD: return readWord(thread, a & CELL_MASK);
            case COUNTER: return counters[a & CELL_MASK];
            case PLUS: return a + b;
            case MINUS: return a - b;
            case TIMES: return a * b;
            case DIVIDE: return b == 0 ? 0 : a / b;
            case REST: return b == 0 ? 0 : a % b;
            case EQUAL: return a == b ? 1 : 0;
            case LESS: return a < b ? 1 : 0;
            case AND: return a != 0 && b != 0 ? 1 : 0;
            case OR: return a != 0 || b != 0 ? 1 : 0;
            case NOT: return a == 0 ? 1 : 0;
            case NEG: return -a;
            default: return a != 0 ? b : c;
        }
    }

    // The threads of a phase go one after the other: what is stored under a thread's bit is its own while it goes.
    private int readWord(int thread, int cell) {
        readers[cell] |= 1 << thread;
        boolean own = (storers[cell] >>> thread & 1) != 0;
        return own ? stored[cell] : words[cell];
    }
}

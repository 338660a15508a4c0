import java.util.ArrayList;
import java.util.List;
import java.util.function.Consumer;

/**
 * Compares WarpDesk with a model that is built in another way: it parses by recursive descent, and it does a phase of a
 * thread by doing the whole program again from its start, with what was read in earlier phases played back.
 */
public final class AgainstModel {
    private static final int PROGRAMS = 4000;
    private static final int[] NUMBERS = {0, 1, 2, 3, -1, 5, 63, 64, 31, 100, Integer.MIN_VALUE, Integer.MAX_VALUE};

    private static long seed = 20261116L;

    public static void main(String[] args) {
        Checks.begin();
        int runs = 0;
        int overs = 0;
        int races = 0;
        for (int i = 0; i < PROGRAMS && !Checks.tooMany(); i++) {
            List<Consumer<Desk>> calls = new ArrayList<>();
            Model model = new Model();
            for (int round = 0; round < 3; round++) {
                write(calls, model);
                String where = "program " + i + "." + round + " " + model.tokens;
                for (int again = 0; again < 2; again++) {
                    touchMemory(calls, model);
                    int answer = run(where, calls, model);
                    compareInTwo(where, calls, model);
                    runs += answer == WarpDesk.NONE ? 0 : 1;
                    overs += answer == WarpDesk.OVER ? 1 : 0;
                    races += model.races > 0 ? 1 : 0;
                }
                calls.add(Desk::wipe);
                model.tokens.clear();
            }
        }
        System.out.println(runs + " runs, " + overs + " of them over, " + races + " looks at a run with races");
        Checks.end();
    }

    private static void touchMemory(List<Consumer<Desk>> calls, Model model) {
        if (below(8) == 0) {
            calls.add(Desk::zero);
            model.words = new int[64];
            model.counters = new int[64];
        }
        int index = below(8) - 2;
        int v = NUMBERS[below(NUMBERS.length)];
        int before = model.words[Math.floorMod(index, 64)];
        calls.add(desk -> Checks.due("put", desk.put(index, v), before));
        model.words[Math.floorMod(index, 64)] = v;
    }

    private static int run(String where, List<Consumer<Desk>> calls, Model model) {
        int n = below(12) == 0 ? below(36) - 1 : 1 + below(below(4) == 0 ? 32 : 6);
        int arg = NUMBERS[below(NUMBERS.length)];
        int fault = model.wrong();
        int answer = model.run(n, arg);
        calls.add(desk -> Checks.due(where + ": wrong", desk.wrong(), fault));
        calls.add(desk -> Checks.due(where + ": run(" + n + ", " + arg + ")", desk.run(n, arg), answer));
        return answer;
    }

    // Two objects that had the same calls, since all questions to one would go beyond its 512 calls.
    private static void compareInTwo(String where, List<Consumer<Desk>> calls, Model model) {
        Desk first = new Desk();
        Desk second = new Desk();
        for (Consumer<Desk> call : calls) {
            call.accept(first);
            call.accept(second);
        }
        compareMemory(where, first, model);
        compareRun(where, second, model);
    }

    private static void compareMemory(String where, Desk desk, Model model) {
        for (int i = 0; i < 64; i++) {
            Checks.due(where + ": word " + i, desk.word(i), model.words[i]);
            Checks.due(where + ": counter " + i, desk.counter(i), model.counters[i]);
            Checks.due(where + ": done " + i, desk.done(i), model.done[i]);
        }
        Checks.due(where + ": wipe", desk.wipe(), model.tokens.size());
    }

    private static void compareRun(String where, Desk desk, Model model) {
        int all = 0;
        int most = 0;
        for (int t = 0; t < 32; t++) {
            for (int v = 0; v < 6; v++) {
                Checks.due(where + ": variable " + v + " of " + t, desk.variable(t, v), model.variables[t][v]);
            }
            Checks.due(where + ": steps " + t, desk.steps(t), model.steps[t]);
            all += model.steps[t];
            most = Math.max(most, model.steps[t]);
        }
        int[] want = {model.phases, all, most, model.races, model.threads};
        for (int what = 0; what < 5; what++) {
            Checks.due(where + ": ran " + what, desk.ran(what), want[what]);
        }
    }

    // ---- programs, the same ones each time ----

    private static int below(int bound) {
        seed = seed * 6364136223846793005L + 1442695040888963407L;
        return (int) ((seed >>> 33) % bound);
    }

    private static void write(List<Consumer<Desk>> calls, Model model) {
        List<Token> made = new ArrayList<>();
        writeRow(made, 0, 1 + below(6));
        int spoilt = below(5);
        if (spoilt == 0 && !made.isEmpty()) {
            made.set(below(made.size()), new Token(below(32), below(6)));
        } else if (spoilt == 1 && !made.isEmpty()) {
            made.remove(below(made.size()));
        }
        for (Token token : made) {
            int answer = model.token(token);
            calls.add(desk -> Checks.due("token " + token, desk.token(token.kind, token.value), answer));
        }
    }

    private static void writeRow(List<Token> made, int depth, int length) {
        for (int i = 0; i < length; i++) {
            int kind = below(20);
            if (kind < 6) {
                made.add(new Token(0, below(6)));
                writeExpression(made, 2);
            } else if (kind < 12) {
                made.add(new Token(1 + below(2), below(9)));
                writeExpression(made, below(2));
                writeExpression(made, 2);
            } else if (kind < 15 && depth < 3) {
                made.add(new Token(3, 0));
                writeExpression(made, 1 + below(2));
                writeRow(made, depth + 1, below(3));
                if (below(2) == 0) {
                    made.add(new Token(4, 0));
                    writeRow(made, depth + 1, below(3));
                }
                made.add(new Token(5, 0));
            } else if (kind < 17 && depth < 3) {
                writeLoop(made, depth);
            } else {
                made.add(new Token(below(8) == 0 ? 8 : 7, 0));
            }
        }
    }

    // Half of the loops count a variable down, so that not all of them go on to the limit.
    private static void writeLoop(List<Token> made, int depth) {
        int counting = below(6);
        boolean ends = below(2) == 0;
        if (ends) {
            made.add(new Token(0, counting));
            made.add(new Token(12 + below(2), 0));
        }
        made.add(new Token(6, 0));
        if (ends) {
            made.add(new Token(11, counting));
            made.add(new Token(0, counting));
            made.add(new Token(21, 0));
            made.add(new Token(11, counting));
            made.add(new Token(10, 1));
        } else {
            writeExpression(made, 1);
        }
        writeRow(made, depth + 1, below(3));
        made.add(new Token(5, 0));
    }

    private static void writeExpression(List<Token> made, int depth) {
        int pick = below(depth > 0 ? 10 : 4);
        if (pick < 4) {
            int kind = 10 + below(5);
            made.add(new Token(kind, kind == 10 ? NUMBERS[below(NUMBERS.length)] : below(6)));
        } else if (pick < 7) {
            made.add(new Token(15 + below(2), 0));
            writeExpression(made, below(4) == 0 ? depth - 1 : 0);
        } else {
            int kind = 20 + below(12);
            made.add(new Token(kind, 0));
            int operands = kind == 31 ? 3 : kind >= 29 ? 1 : 2;
            for (int i = 0; i < operands; i++) {
                writeExpression(made, depth - below(2));
            }
        }
    }

    private static final class Token {
        final int kind;
        final int value;

        Token(int kind, int value) {
            this.kind = kind;
            this.value = value;
        }

        @Override
        public String toString() {
            return kind + ":" + value;
        }
    }

    // ---- the model ----

    private static final class Fault extends RuntimeException {
        private static final long serialVersionUID = 1L;
    }

    private static final class Stop extends RuntimeException {
        private static final long serialVersionUID = 1L;
        final boolean atBarrier;
        final boolean over;

        Stop(boolean atBarrier, boolean over) {
            super(null, null, false, false);
            this.atBarrier = atBarrier;
            this.over = over;
        }
    }

    private static final class Node {
        int kind;
        int value;
        int at;
        List<Node> operands = new ArrayList<>();
        List<Node> body = new ArrayList<>();
        List<Node> otherwise = new ArrayList<>();
    }

    private static final class Model {
        final List<Token> tokens = new ArrayList<>();
        int[] words = new int[64];
        int[] counters = new int[64];
        int[] done = new int[64];
        int[] steps = new int[32];
        int[][] variables = new int[32][6];
        int threads;
        int phases;
        int races;

        private int at;
        private int expressionStart;
        private int argument;
        private Replay[] replays;

        int token(Token token) {
            int k = token.kind;
            boolean known = k >= 0 && k < 32 && k != 9 && (k < 17 || k > 19);
            if (!known || (k == 0 || k == 11) && (token.value < 0 || token.value > 5) || tokens.size() == 64) {
                return -1;
            }
            tokens.add(token);
            return tokens.size();
        }

        int wrong() {
            try {
                parse();
                return -1;
            } catch (Fault fault) {
                return at;
            }
        }

        private List<Node> parse() {
            at = 0;
            List<Node> row = parseRow();
            if (at < tokens.size()) {
                throw new Fault();
            }
            return row;
        }

        private int kindHere() {
            return at < tokens.size() ? tokens.get(at).kind : -1;
        }

        private List<Node> parseRow() {
            List<Node> row = new ArrayList<>();
            while (kindHere() >= 0 && kindHere() <= 8 && kindHere() != 4 && kindHere() != 5) {
                row.add(parseStatement());
            }
            return row;
        }

        private Node take() {
            Node node = new Node();
            node.at = at;
            node.kind = tokens.get(at).kind;
            node.value = tokens.get(at).value;
            at++;
            return node;
        }

        private Node parseStatement() {
            Node node = take();
            if (node.kind <= 3 || node.kind == 6) {
                node.operands.add(parseWholeExpression());
            }
            if (node.kind == 1 || node.kind == 2) {
                node.operands.add(parseWholeExpression());
            }
            if (node.kind == 3 || node.kind == 6) {
                node.body = parseRow();
                if (node.kind == 3 && kindHere() == 4) {
                    at++;
                    node.otherwise = parseRow();
                }
                if (kindHere() != 5) {
                    throw new Fault();
                }
                at++;
            }
            return node;
        }

        private Node parseWholeExpression() {
            expressionStart = at;
            return parseExpression();
        }

        private Node parseExpression() {
            if (kindHere() < 10 || at - expressionStart == 16) {
                throw new Fault();
            }
            Node node = take();
            int k = node.kind;
            int operands = k < 15 ? 0 : k < 20 || k == 29 || k == 30 ? 1 : k == 31 ? 3 : 2;
            for (int i = 0; i < operands; i++) {
                node.operands.add(parseExpression());
            }
            return node;
        }

        int run(int n, int arg) {
            if (n < 1 || n > 32 || wrong() != -1) {
                return -1;
            }
            List<Node> program = parse();
            threads = n;
            argument = arg;
            phases = 0;
            races = 0;
            done = new int[64];
            steps = new int[32];
            variables = new int[32][6];
            replays = new Replay[n];
            boolean over = false;
            boolean going = true;
            while (going) {
                going = false;
                for (int t = 0; t < n; t++) {
                    if (replays[t] == null || replays[t].end.atBarrier) {
                        List<Integer> log = replays[t] == null ? new ArrayList<>() : replays[t].log;
                        replays[t] = new Replay(this, t, phases, log);
                        replays[t].play(program);
                        going |= replays[t].end.atBarrier;
                        over |= replays[t].end.over;
                    } else {
                        replays[t].forgetPhase();
                    }
                }
                endPhase();
                phases++;
            }
            for (int t = 0; t < n; t++) {
                variables[t] = replays[t].variables;
                steps[t] = replays[t].steps;
                for (int k = 0; k < 64; k++) {
                    done[k] += replays[t].done[k];
                }
            }
            return over ? 1 : 0;
        }

        private void endPhase() {
            for (int w = 0; w < 64; w++) {
                boolean race = false;
                for (int a = 0; a < threads; a++) {
                    for (int b = 0; b < threads; b++) {
                        race |= a != b && replays[a].stored[w] != null && (replays[b].stored[w] != null || replays[b].read[w]);
                    }
                }
                races += race ? 1 : 0;
                for (int t = 0; t < threads; t++) {
                    words[w] = replays[t].stored[w] != null ? replays[t].stored[w] : words[w];
                    counters[w] += replays[t].added[w];
                }
            }
        }
    }

    /** One thread from the start of the program to the end of a phase; memory counts in that phase alone. */
    private static final class Replay {
        final Model model;
        final int thread;
        final int phase;
        final List<Integer> log;
        int[] variables = new int[6];
        int[] done = new int[64];
        int[] added = new int[64];
        Integer[] stored = new Integer[64];
        boolean[] read = new boolean[64];
        int steps;
        Stop end;
        private int barriers;
        private int played;

        Replay(Model model, int thread, int phase, List<Integer> log) {
            this.model = model;
            this.thread = thread;
            this.phase = phase;
            this.log = log;
        }

        void forgetPhase() {
            added = new int[64];
            stored = new Integer[64];
            read = new boolean[64];
        }

        void play(List<Node> program) {
            try {
                playRow(program);
                end = new Stop(false, false);
            } catch (Stop stop) {
                end = stop;
            }
        }

        private void playRow(List<Node> row) {
            for (Node node : row) {
                playStatement(node);
            }
        }

        private void playStatement(Node node) {
            if (steps == 300) {
                throw new Stop(false, true);
            }
            steps++;
            done[node.at]++;
            switch (node.kind) {
                case 0 -> variables[node.value] = work(node.operands.get(0));
                case 1 -> {
                    int index = Math.floorMod(work(node.operands.get(0)), 64);
                    int value = work(node.operands.get(1));
                    if (barriers == phase) {
                        stored[index] = value;
                    }
                }
                case 2 -> {
                    int index = Math.floorMod(work(node.operands.get(0)), 64);
                    int value = work(node.operands.get(1));
                    added[index] += barriers == phase ? value : 0;
                }
                case 3 -> playRow(work(node.operands.get(0)) != 0 ? node.body : node.otherwise);
                case 6 -> {
                    if (work(node.operands.get(0)) != 0) {
                        playRow(node.body);
                        playStatement(node);
                    }
                }
                case 7 -> {
                    if (barriers == phase) {
                        throw new Stop(true, false);
                    }
                    barriers++;
                }
                default -> throw new Stop(false, false);
            }
        }

        private int work(Node node) {
            int[] x = new int[3];
            for (int i = 0; i < node.operands.size(); i++) {
                x[i] = work(node.operands.get(i));
            }
            return switch (node.kind) {
                case 10 -> node.value;
                case 11 -> variables[node.value];
                case 12 -> thread;
                case 13 -> model.threads;
                case 14 -> model.argument;
                case 15, 16 -> remembered(node.kind == 15, Math.floorMod(x[0], 64));
                case 20 -> x[0] + x[1];
                case 21 -> x[0] - x[1];
                case 22 -> x[0] * x[1];
                case 23 -> x[1] == 0 ? 0 : (int) ((long) x[0] / x[1]);
                case 24 -> x[1] == 0 ? 0 : (int) ((long) x[0] % x[1]);
                case 25 -> yes(x[0] == x[1]);
                case 26 -> yes(x[0] < x[1]);
                case 27 -> yes(x[0] != 0 && x[1] != 0);
                case 28 -> yes(x[0] != 0 || x[1] != 0);
                case 29 -> yes(x[0] == 0);
                case 30 -> 0 - x[0];
                default -> x[0] != 0 ? x[1] : x[2];
            };
        }

        private static int yes(boolean answer) {
            return answer ? 1 : 0;
        }

        private int remembered(boolean isWord, int index) {
            if (barriers < phase) {
                return log.get(played++);
            }
            int value = isWord ? model.words[index] : model.counters[index];
            if (isWord) {
                read[index] = true;
                value = stored[index] != null ? stored[index] : value;
            }
            log.add(value);
            played++;
            return value;
        }
    }
}

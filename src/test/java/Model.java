import java.util.ArrayList;
import java.util.Arrays;
import java.util.List;

/**
 * The document's answers, found in another way than WarpDesk finds them: it parses by recursive descent, and it does a
 * phase of a thread by doing the whole program again from its start, with what was read in earlier phases played back.
 */
final class Model {
    final List<Token> tokens = new ArrayList<>();
    int[] words = new int[64];
    int[] counters = new int[64];
    int[] done = new int[64];
    int[] steps = new int[32];
    int[][] variables = new int[32][6];
    int threads;
    int phases;
    int races;

    private int at;
    private int expressionStart;
    private int argument;
    private Replay[] replays;

    int wipe() {
        int were = tokens.size();
        tokens.clear();
        return were;
    }

    int put(int index, int v) {
        int was = word(index);
        words[Math.floorMod(index, 64)] = v;
        return was;
    }

    void zero() {
        words = new int[64];
        counters = new int[64];
    }

    int word(int index) {
        return words[Math.floorMod(index, 64)];
    }

    int counter(int index) {
        return counters[Math.floorMod(index, 64)];
    }

    int variable(int thread, int v) {
        return thread < 0 || thread >= threads || v < 0 || v > 5 ? 0 : variables[thread][v];
    }

    int ran(int what) {
        return switch (what) {
            case 0 -> phases;
            case 1 -> Arrays.stream(steps).sum();
            case 2 -> Arrays.stream(steps).max().getAsInt();
            case 3 -> races;
            case 4 -> threads;
            default -> 0;
        };
    }

    int steps(int thread) {
        return thread < 0 || thread >= threads ? 0 : steps[thread];
    }

    int done(int k) {
        return k < 0 || k > 63 ? 0 : done[k];
    }

    int token(Token token) {
        int k = token.kind;
        boolean known = k >= 0 && k < 32 && k != 9 && (k < 17 || k > 19);
        if (!known || (k == 0 || k == 11) && (token.value < 0 || token.value > 5) || tokens.size() == 64) {
            return -1;
        }
        tokens.add(token);
        return tokens.size();
    }

    int wrong() {
        try {
            parse();
            return -1;
        } catch (Fault fault) {
            return at;
        }
    }

    private List<Node> parse() {
        at = 0;
        List<Node> row = parseRow();
        if (at < tokens.size()) {
            throw new Fault();
        }
        return row;
    }

    private int kindHere() {
        return at < tokens.size() ? tokens.get(at).kind : -1;
    }

    private List<Node> parseRow() {
        List<Node> row = new ArrayList<>();
        while (kindHere() >= 0 && kindHere() <= 8 && kindHere() != 4 && kindHere() != 5) {
            row.add(parseStatement());
        }
        return row;
    }

    private Node take() {
        Node node = new Node();
        node.at = at;
        node.kind = tokens.get(at).kind;
        node.value = tokens.get(at).value;
        at++;
        return node;
    }

    private Node parseStatement() {
        Node node = take();
        if (node.kind <= 3 || node.kind == 6) {
            node.operands.add(parseWholeExpression());
        }
        if (node.kind == 1 || node.kind == 2) {
            node.operands.add(parseWholeExpression());
        }
        if (node.kind == 3 || node.kind == 6) {
            node.body = parseRow();
            if (node.kind == 3 && kindHere() == 4) {
                at++;
                node.otherwise = parseRow();
            }
            if (kindHere() != 5) {
                throw new Fault();
            }
            at++;
        }
        return node;
    }

    private Node parseWholeExpression() {
        expressionStart = at;
        return parseExpression();
    }

    private Node parseExpression() {
        if (kindHere() < 10 || at - expressionStart == 16) {
            throw new Fault();
        }
        Node node = take();
        int k = node.kind;
        int operands = k < 15 ? 0 : k < 20 || k == 29 || k == 30 ? 1 : k == 31 ? 3 : 2;
        for (int i = 0; i < operands; i++) {
            node.operands.add(parseExpression());
        }
        return node;
    }

    int run(int n, int arg) {
        if (n < 1 || n > 32 || wrong() != -1) {
            return -1;
        }
        List<Node> program = parse();
        threads = n;
        argument = arg;
        phases = 0;
        races = 0;
        done = new int[64];
        steps = new int[32];
        variables = new int[32][6];
        replays = new Replay[n];
        boolean over = false;
        boolean going = true;
        while (going) {
            going = false;
            for (int t = 0; t < n; t++) {
                if (replays[t] == null || replays[t].end.atBarrier) {
                    List<Integer> log = replays[t] == null ? new ArrayList<>() : replays[t].log;
                    replays[t] = new Replay(this, t, phases, log);
                    replays[t].play(program);
                    going |= replays[t].end.atBarrier;
                    over |= replays[t].end.over;
                } else {
                    replays[t].forgetPhase();
                }
            }
            endPhase();
            phases++;
        }
        for (int t = 0; t < n; t++) {
            variables[t] = replays[t].variables;
            steps[t] = replays[t].steps;
            for (int k = 0; k < 64; k++) {
                done[k] += replays[t].done[k];
            }
        }
        return over ? 1 : 0;
    }

    private void endPhase() {
        for (int w = 0; w < 64; w++) {
            boolean race = false;
            for (int a = 0; a < threads; a++) {
                for (int b = 0; b < threads; b++) {
                    race |= a != b && replays[a].stored[w] != null && (replays[b].stored[w] != null || replays[b].read[w]);
                }
            }
            races += race ? 1 : 0;
            for (int t = 0; t < threads; t++) {
                words[w] = replays[t].stored[w] != null ? replays[t].stored[w] : words[w];
                counters[w] += replays[t].added[w];
            }
        }
    }

    static final class Token {
        final int kind;
        final int value;

        Token(int kind, int value) {
            this.kind = kind;
            this.value = value;
        }

        @Override
        public String toString() {
            return kind + ":" + value;
        }
    }

    private static final class Fault extends RuntimeException {
        private static final long serialVersionUID = 1L;
    }

    private static final class Stop extends RuntimeException {
        private static final long serialVersionUID = 1L;
        final boolean atBarrier;
        final boolean over;

        Stop(boolean atBarrier, boolean over) {
            super(null, null, false, false);
            this.atBarrier = atBarrier;
            this.over = over;
        }
    }

    private static final class Node {
        int kind;
        int value;
        int at;
        List<Node> operands = new ArrayList<>();
        List<Node> body = new ArrayList<>();
        List<Node> otherwise = new ArrayList<>();
    }

    /** One thread from the start of the program to the end of a phase; memory counts in that phase alone. */
    private static final class Replay {
        final Model model;
        final int thread;
        final int phase;
        final List<Integer> log;
        int[] variables = new int[6];
        int[] done = new int[64];
        int[] added = new int[64];
        Integer[] stored = new Integer[64];
        boolean[] read = new boolean[64];
        int steps;
        Stop end;
        private int barriers;
        private int played;

        Replay(Model model, int thread, int phase, List<Integer> log) {
            this.model = model;
            this.thread = thread;
            this.phase = phase;
            this.log = log;
        }

        void forgetPhase() {
            added = new int[64];
            stored = new Integer[64];
            read = new boolean[64];
        }

        void play(List<Node> program) {
            try {
                playRow(program);
                end = new Stop(false, false);
            } catch (Stop stop) {
                end = stop;
            }
        }

        private void playRow(List<Node> row) {
            for (Node node : row) {
                playStatement(node);
            }
        }

        private void playStatement(Node node) {
            if (steps == 300) {
                throw new Stop(false, true);
            }
            steps++;
            done[node.at]++;
            switch (node.kind) {
                case 0 -> variables[node.value] = work(node.operands.get(0));
                case 1 -> {
                    int index = Math.floorMod(work(node.operands.get(0)), 64);
                    int value = work(node.operands.get(1));
                    if (barriers == phase) {
                        stored[index] = value;
                    }
                }
                case 2 -> {
                    int index = Math.floorMod(work(node.operands.get(0)), 64);
                    int value = work(node.operands.get(1));
                    added[index] += barriers == phase ? value : 0;
                }
                case 3 -> playRow(work(node.operands.get(0)) != 0 ? node.body : node.otherwise);
                case 6 -> {
                    if (work(node.operands.get(0)) != 0) {
                        playRow(node.body);
                        playStatement(node);
                    }
                }
                case 7 -> {
                    if (barriers == phase) {
                        throw new Stop(true, false);
                    }
                    barriers++;
                }
                default -> throw new Stop(false, false);
            }
        }

        private int work(Node node) {
            int[] x = new int[3];
            for (int i = 0; i < node.operands.size(); i++) {
                x[i] = work(node.operands.get(i));
            }
            return switch (node.kind) {
                case 10 -> node.value;
                case 11 -> variables[node.value];
                case 12 -> thread;
                case 13 -> model.threads;
                case 14 -> model.argument;
                case 15, 16 -> remembered(node.kind == 15, Math.floorMod(x[0], 64));
                case 20 -> x[0] + x[1];
                case 21 -> x[0] - x[1];
                case 22 -> x[0] * x[1];
                case 23 -> x[1] == 0 ? 0 : (int) ((long) x[0] / x[1]);
                case 24 -> x[1] == 0 ? 0 : (int) ((long) x[0] % x[1]);
                case 25 -> yes(x[0] == x[1]);
                case 26 -> yes(x[0] < x[1]);
                case 27 -> yes(x[0] != 0 && x[1] != 0);
                case 28 -> yes(x[0] != 0 || x[1] != 0);
                case 29 -> yes(x[0] == 0);
                case 30 -> 0 - x[0];
                default -> x[0] != 0 ? x[1] : x[2];
            };
        }

        private static int yes(boolean answer) {
            return answer ? 1 : 0;
        }

        private int remembered(boolean isWord, int index) {
            if (barriers < phase) {
                return log.get(played++);
            }
            int value = isWord ? model.words[index] : model.counters[index];
            if (isWord) {
                read[index] = true;
                value = stored[index] != null ? stored[index] : value;
            }
            log.add(value);
            played++;
            return value;
        }
    }
}

import java.util.ArrayDeque;
import java.util.Deque;

/**
 * Whole lives of objects: 512 calls each, all of them mixed, so that tokens, words, runs and refusals of every order come
 * before each question. Each answer, up to that of the 512th call, is compared with the model's.
 */
public final class Lives {
    private static final int LIVES = 3000;
    private static final int CALLS = 512;
    private static final int MIN = Integer.MIN_VALUE, MAX = Integer.MAX_VALUE;
    private static final int[] EDGES = {MIN, MIN + 1, -65, -64, -63, -1, 5, 6, 32, 33, 63, 64, 65, 127, 128, MAX - 1, MAX};

    private static final Programs made = new Programs(20261117L);
    private static int runs = 0;
    private static int refused = 0;

    private final int number;
    private final Desk desk = new Desk();
    private final Model model = new Model();
    private final Deque<Model.Token> waiting = new ArrayDeque<>();
    // Some lives are long rows of questions with few changes between, and some ask one question only.
    private final int changeOneIn = made.below(4) == 0 ? 40 : 3;
    private final int favourite = made.below(16);
    private int call = 0;

    private Lives(int number) {
        this.number = number;
    }

    public static void main(String[] args) {
        Checks.begin();
        Checks.holds("What it is", "An object is used for at most 512 calls after it has been made", Lives::liveAll);
        System.out.println(runs + " runs, " + refused + " refused");
        Checks.end();
    }

    private static void liveAll() {
        for (int i = 0; i < LIVES && !Checks.tooMany(); i++) {
            new Lives(i).live();
        }
    }

    private void live() {
        for (call = 1; call <= CALLS; call++) {
            if (!waiting.isEmpty() && made.below(8) != 0) {
                token(waiting.remove());
            } else if (made.below(changeOneIn) == 0) {
                change();
            } else {
                ask();
            }
        }
    }

    private void change() {
        switch (made.below(12)) {
            case 0, 1, 2 -> wipeAndWrite();
            case 3 -> token(new Model.Token(anyBelow(33), anyBelow(7)));
            case 4 -> due("wipe()", desk.wipe(), model.wipe());
            case 5 -> zero();
            case 6, 7, 8 -> put(anyBelow(64), made.number());
            default -> run(made.below(8) == 0 ? anyBelow(34) : 1 + made.below(made.below(4) == 0 ? 32 : 6), made.number());
        }
    }

    // Now and then the new tokens come behind the old ones.
    private void wipeAndWrite() {
        waiting.clear();
        waiting.addAll(made.next());
        if (made.below(6) != 0) {
            due("wipe()", desk.wipe(), model.wipe());
        } else {
            due("wrong()", desk.wrong(), model.wrong());
        }
    }

    private void ask() {
        int a = anyBelow(64);
        int thread = anyBelow(33);
        int v = anyBelow(7);
        int what = anyBelow(6);
        switch (favourite < 8 ? favourite : made.below(8)) {
            case 0 -> due("wrong()", desk.wrong(), model.wrong());
            case 1 -> due("word(" + a + ")", desk.word(a), model.word(a));
            case 2 -> due("counter(" + a + ")", desk.counter(a), model.counter(a));
            case 3 -> due("steps(" + thread + ")", desk.steps(thread), model.steps(thread));
            case 4 -> due("done(" + a + ")", desk.done(a), model.done(a));
            case 5 -> due("ran(" + what + ")", desk.ran(what), model.ran(what));
            default -> due("variable(" + thread + ", " + v + ")", desk.variable(thread, v), model.variable(thread, v));
        }
    }

    // Small ones more often than others, since programs use them more often.
    private static int anyBelow(int bound) {
        return switch (made.below(10)) {
            case 0 -> EDGES[made.below(EDGES.length)];
            case 1, 2, 3, 4 -> made.below(Math.min(bound, 8));
            default -> made.below(bound);
        };
    }

    private void token(Model.Token token) {
        due("token(" + token.kind + ", " + token.value + ")", desk.token(token.kind, token.value), model.token(token));
    }

    private void zero() {
        desk.zero();
        model.zero();
    }

    private void put(int index, int v) {
        due("put(" + index + ", " + v + ")", desk.put(index, v), model.put(index, v));
    }

    private void run(int n, int arg) {
        int answer = model.run(n, arg);
        due("run(" + n + ", " + arg + ")", desk.run(n, arg), answer);
        runs += answer == WarpDesk.NONE ? 0 : 1;
        refused += answer == WarpDesk.NONE ? 1 : 0;
    }

    private void due(String what, int got, int want) {
        Checks.due("life " + number + ", call " + call + ", " + what, got, want);
    }
}

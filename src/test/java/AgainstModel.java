import java.util.ArrayList;
import java.util.List;
import java.util.function.Consumer;

/** Runs made-up programs, and compares all that can be asked about each run with what the model answers. */
public final class AgainstModel {
    private static final int PROGRAMS = 4000;

    private static final Programs made = new Programs(20261116L);

    public static void main(String[] args) {
        Checks.begin();
        int runs = 0;
        int overs = 0;
        int races = 0;
        for (int i = 0; i < PROGRAMS && !Checks.tooMany(); i++) {
            List<Consumer<Desk>> calls = new ArrayList<>();
            Model model = new Model();
            for (int round = 0; round < 3; round++) {
                write(calls, model);
                String where = "program " + i + "." + round + " " + model.tokens;
                for (int again = 0; again < 2; again++) {
                    touchMemory(calls, model);
                    int answer = run(where, calls, model);
                    compareInTwo(where, calls, model);
                    runs += answer == WarpDesk.NONE ? 0 : 1;
                    overs += answer == WarpDesk.OVER ? 1 : 0;
                    races += model.races > 0 ? 1 : 0;
                }
                calls.add(Desk::wipe);
                model.wipe();
            }
        }
        System.out.println(runs + " runs, " + overs + " of them over, " + races + " looks at a run with races");
        Checks.end();
    }

    private static void write(List<Consumer<Desk>> calls, Model model) {
        for (Model.Token token : made.next()) {
            int answer = model.token(token);
            calls.add(desk -> Checks.due("token " + token, desk.token(token.kind, token.value), answer));
        }
    }

    private static void touchMemory(List<Consumer<Desk>> calls, Model model) {
        if (made.below(8) == 0) {
            calls.add(Desk::zero);
            model.zero();
        }
        int index = made.below(8) - 2;
        int v = made.number();
        int before = model.put(index, v);
        calls.add(desk -> Checks.due("put", desk.put(index, v), before));
    }

    private static int run(String where, List<Consumer<Desk>> calls, Model model) {
        int n = made.below(12) == 0 ? made.below(36) - 1 : 1 + made.below(made.below(4) == 0 ? 32 : 6);
        int arg = made.number();
        int fault = model.wrong();
        int answer = model.run(n, arg);
        calls.add(desk -> Checks.due(where + ": wrong", desk.wrong(), fault));
        calls.add(desk -> Checks.due(where + ": run(" + n + ", " + arg + ")", desk.run(n, arg), answer));
        return answer;
    }

    // Two objects that had the same calls, since all questions to one would go beyond its 512 calls.
    private static void compareInTwo(String where, List<Consumer<Desk>> calls, Model model) {
        Desk first = new Desk();
        Desk second = new Desk();
        for (Consumer<Desk> call : calls) {
            call.accept(first);
            call.accept(second);
        }
        compareMemory(where, first, model);
        compareRun(where, second, model);
    }

    private static void compareMemory(String where, Desk desk, Model model) {
        for (int i = 0; i < 64; i++) {
            Checks.due(where + ": word " + i, desk.word(i), model.word(i));
            Checks.due(where + ": counter " + i, desk.counter(i), model.counter(i));
            Checks.due(where + ": done " + i, desk.done(i), model.done(i));
        }
        Checks.due(where + ": wipe", desk.wipe(), model.tokens.size());
    }

    private static void compareRun(String where, Desk desk, Model model) {
        for (int t = 0; t < 32; t++) {
            for (int v = 0; v < 6; v++) {
                Checks.due(where + ": variable " + v + " of " + t, desk.variable(t, v), model.variable(t, v));
            }
            Checks.due(where + ": steps " + t, desk.steps(t), model.steps(t));
        }
        for (int what = 0; what < 5; what++) {
            Checks.due(where + ": ran " + what, desk.ran(what), model.ran(what));
        }
    }
}

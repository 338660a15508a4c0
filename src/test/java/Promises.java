/** For each promise of the document its ordinary inputs, the edges that it names, and wrong inputs. */
public final class Promises {
    private static final int MIN = Integer.MIN_VALUE, MAX = Integer.MAX_VALUE, NONE = WarpDesk.NONE;

    public static void main(String[] args) {
        Checks.begin();
        promise(1, "newObject", Promises::newObject);
        promise(2, "tokenAppends", Promises::tokenAppends);
        promise(2, "tokenRefuses", Promises::tokenRefuses);
        promise(3, "wipeRemoves", Promises::wipeRemoves);
        promise(4, "wrongTellsTheFirstFault", Promises::wrongTellsTheFirstFault);
        promise(4, "wrongTellsWhatIsMissing", Promises::wrongTellsWhatIsMissing);
        promise(4, "wrongCountsExpressions", Promises::wrongCountsExpressions);
        promise(5, "putAnswersWhatWas", Promises::putAnswersWhatWas);
        promise(6, "zeroClearsMemoryAlone", Promises::zeroClearsMemoryAlone);
        promise(7, "runAnswers", Promises::runAnswers);
        promise(7, "runRefusesAndChangesNothing", Promises::runRefusesAndChangesNothing);
        promise(7, "operators", Promises::operators);
        promise(7, "statements", Promises::statements);
        promise(7, "memoryInPhases", Promises::memoryInPhases);
        promise(8, "wordsByLowestBits", Promises::wordsByLowestBits);
        promise(9, "countersGrow", Promises::countersGrow);
        promise(10, "variablesOfTheLatestRun", Promises::variablesOfTheLatestRun);
        promise(11, "ranTellsOfTheLatestRun", Promises::ranTellsOfTheLatestRun);
        promise(11, "races", Promises::races);
        promise(12, "stepsOfThreads", Promises::stepsOfThreads);
        promise(13, "doneByToken", Promises::doneByToken);
        promise(14, "allOperandsAreWorkedOut", Promises::allOperandsAreWorkedOut);
        promise(14, "barrierAtTheEnd", Promises::barrierAtTheEnd);
        promise(14, "theLimitOfSteps", Promises::theLimitOfSteps);
        promise(14, "whatAnOverlongThreadLeaves", Promises::whatAnOverlongThreadLeaves);
        Checks.end();
    }

    private static void newObject() {
        Desk x = new Desk();
        Checks.due("constants", WarpDesk.OK == 0 && WarpDesk.OVER == 1 && WarpDesk.NONE == -1 ? 1 : 0, 1);
        for (int i = 0; i < 64; i++) {
            Checks.due("word " + i, x.word(i), 0);
            Checks.due("counter " + i, x.counter(i), 0);
            Checks.due("done " + i, x.done(i), 0);
        }
        for (int what = -1; what <= 5; what++) {
            Checks.due("ran " + what, x.ran(what), 0);
        }
        for (int t = -1; t <= 32; t++) {
            Checks.due("steps " + t, x.steps(t), 0);
            Checks.due("variable of " + t, x.variable(t, 0), 0);
        }
        Checks.due("wrong", x.wrong(), NONE);
        Checks.due("wipe", x.wipe(), 0);
    }

    private static void tokenAppends() {
        for (int kind = -70; kind <= 140; kind++) {
            boolean known = kind >= 0 && kind <= 8 || kind >= 10 && kind <= 16 || kind >= 20 && kind <= 31;
            Desk x = new Desk();
            Checks.due("kind " + kind, x.token(kind, 3), known ? 1 : NONE);
            boolean limited = kind == 0 || kind == 11;
            int[] odd = {-1, 6, 64, MIN, MAX};
            for (int value : odd) {
                x.wipe();
                Checks.due("kind " + kind + " value " + value, x.token(kind, value), known && !limited ? 1 : NONE);
            }
        }
        Checks.due("kind MIN", new Desk().token(MIN, 0), NONE);
        Checks.due("kind MAX", new Desk().token(MAX, 0), NONE);
        Desk x = new Desk();
        for (int v = 0; v <= 5; v++) {
            Checks.due("SET " + v, x.token(0, v), 2 * v + 1);
            Checks.due("VAR " + v, x.token(11, v), 2 * v + 2);
        }
    }

    private static void tokenRefuses() {
        Desk x = new Desk();
        for (int i = 1; i <= 64; i++) {
            Checks.due("token " + i, x.token(7, 0), i);
        }
        Checks.due("token 65", x.token(8, 0), NONE);
        Checks.due("token 65 again", x.token(7, 0), NONE);
        Checks.due("64 barriers are left", x.run(1, 0), WarpDesk.OK);
        Checks.due("their phases", x.ran(0), 65);
        Checks.due("64 are left", x.wipe(), 64);
        x.load("SET:2 NUM:5");
        Checks.due("refused kind", x.token(9, 0), NONE);
        Checks.due("refused variable", x.token(0, 6), NONE);
        Checks.due("refused VAR", x.token(11, -1), NONE);
        Checks.due("refused tokens change nothing", x.wrong(), NONE);
        Checks.due("they are not counted", x.wipe(), 2);
    }

    private static void wipeRemoves() {
        Desk x = Desk.with("SET:3 NUM:7 STORE NUM:2 NUM:9 ADD NUM:2 NUM:4");
        x.run(2, 0);
        Checks.due("wipe", x.wipe(), 8);
        Checks.due("wipe again", x.wipe(), 0);
        Checks.due("wrong", x.wrong(), NONE);
        Checks.due("word stays", x.word(2), 9);
        Checks.due("counter stays", x.counter(2), 8);
        Checks.due("variable stays", x.variable(1, 3), 7);
        Checks.due("steps stay", x.steps(0), 3);
        Checks.due("what ran stays", x.ran(0) * 100 + x.ran(1) * 10 + x.ran(4), 162);
        Checks.due("done stays", x.done(5), 2);
        Checks.due("token after wipe", x.token(8, 0), 1);
    }

    private static void wrongTellsTheFirstFault() {
        fault("SET:0 NUM:1 NUM:2", 2);
        fault("VAR:0", 0);
        fault("SELECT", 0);
        fault("ELSE", 0);
        fault("END", 0);
        fault("SET:0 SET:0", 1);
        fault("SET:0 END", 1);
        fault("STORE NUM:1 BARRIER NUM:2", 2);
        fault("ADD NUM:1 RETURN", 2);
        fault("BARRIER RETURN NUM:0", 2);
        fault("IF ELSE", 1);
        fault("IF NUM:1 ELSE ELSE END", 3);
        fault("IF NUM:1 ELSE END ELSE END", 4);
        fault("IF NUM:1 END END", 3);
        fault("WHILE NUM:1 ELSE END", 2);
        fault("WHILE NUM:1 IF NUM:1 ELSE END ELSE END", 6);
        fault("IF NUM:1 WHILE NUM:1 ELSE END END", 4);
        fault("IF NUM:1 ELSE WHILE NUM:0 END ELSE END", 6);
        fault("IF NUM:1 ELSE IF NUM:1 ELSE END ELSE END", 7);
        fault("SET:0 + NUM:1 IF NUM:1 END", 3);
        fault("SET:0 WORD BARRIER", 2);
        fault("SET:0 SELECT NUM:1 NUM:2 SET:0 NUM:1", 4);
        fault("", NONE);
        fault("SET:0 WORD COUNTER NEG NOT NUM:1", NONE);
        fault("IF NUM:1 END", NONE);
        fault("IF NUM:1 ELSE END", NONE);
        fault("WHILE NUM:0 END", NONE);
        fault("IF NUM:1 WHILE NUM:0 IF NUM:0 BARRIER ELSE RETURN END END ELSE IF NUM:1 END END RETURN", NONE);
    }

    private static void wrongTellsWhatIsMissing() {
        fault("SET:0", 1);
        fault("SET:0 +", 2);
        fault("SET:0 SELECT NUM:1 NUM:1", 4);
        fault("STORE", 1);
        fault("STORE NUM:1", 2);
        fault("ADD NUM:1", 2);
        fault("IF", 1);
        fault("IF NUM:1", 2);
        fault("IF NUM:1 ELSE", 3);
        fault("WHILE NUM:1 BARRIER", 3);
        fault("IF NUM:1 IF NUM:1 END", 5);
        fault("IF NUM:1 ".repeat(32).trim(), 64);
        fault("IF NUM:1 ".repeat(21) + "END ".repeat(21).trim(), NONE);
        fault("WHILE NUM:0 ".repeat(22) + "END ".repeat(20).trim(), 64);
    }

    private static void wrongCountsExpressions() {
        fault("SET:0 " + "NEG ".repeat(15) + "NUM:1", NONE);
        fault("SET:0 " + "NEG ".repeat(16) + "NUM:1", 17);
        fault("SET:0 " + "NEG ".repeat(16).trim(), 17);
        fault("SET:0 " + "NEG ".repeat(16) + "BARRIER", 17);
        fault("SET:0 " + "NEG ".repeat(14) + "BARRIER", 15);
        fault("SET:0 " + "SELECT ".repeat(16).trim(), 17);
        fault("SET:0 " + "SELECT ".repeat(17).trim(), 17);
        fault("SET:0 " + "SELECT ".repeat(40).trim(), 17);
        fault("SET:0 " + "SELECT ".repeat(15) + "BARRIER", 16);
        fault("SET:0 " + "SELECT NUM:1 NUM:2 ".repeat(5) + "NUM:3", NONE);
        fault("SET:0 " + "+ NUM:1 ".repeat(8) + "NUM:1", 17);
        String sixteen = "NOT " + "+ NUM:1 ".repeat(7) + "NUM:1";
        fault("STORE " + sixteen + " " + sixteen, NONE);
        fault("STORE " + sixteen + " NOT " + sixteen, 33);
        fault("STORE NOT " + sixteen + " " + sixteen, 17);
        fault("IF " + sixteen + " ADD " + sixteen + " NUM:1 END", NONE);
        fault("STORE NUM:1 " + sixteen + " BARRIER " + "WHILE NOT " + sixteen, 36);
    }

    private static void putAnswersWhatWas() {
        Desk x = new Desk();
        Checks.due("put", x.put(3, 11), 0);
        Checks.due("put again", x.put(3, -12), 11);
        Checks.due("put at 67", x.put(67, MAX), -12);
        Checks.due("put at -61", x.put(-61, MIN), MAX);
        Checks.due("the word", x.word(3), MIN);
        Checks.due("put at MIN", x.put(MIN, 5), 0);
        Checks.due("put at 0", x.put(0, 6), 5);
        Checks.due("put at MAX", x.put(MAX, 7), 0);
        Checks.due("put at -1", x.put(-1, 8), 7);
        Checks.due("put at 63", x.put(63, 9), 8);
        Checks.due("neighbours", x.word(2) + x.word(4), 0);
        Checks.due("counters", x.counter(3) + x.counter(0) + x.counter(63), 0);
        Checks.due("no run", x.ran(4), 0);
    }

    private static void zeroClearsMemoryAlone() {
        Desk x = Desk.with("STORE THREAD NUM:4 STORE + THREAD SIZE NUM:4 ADD THREAD NUM:5 ADD + THREAD SIZE NUM:5 SET:1 NUM:6");
        x.run(32, 0);
        Checks.due("before", x.word(63) + x.counter(63) + x.word(0) + x.counter(0), 18);
        x.zero();
        for (int i = 0; i < 64; i++) {
            Checks.due("word " + i, x.word(i), 0);
            Checks.due("counter " + i, x.counter(i), 0);
        }
        Checks.due("variables stay", x.variable(31, 1), 6);
        Checks.due("the run stays", x.ran(1), 160);
        Checks.due("done stays", x.done(0), 32);
        Checks.due("tokens stay", x.wipe(), 18);
    }

    private static void runAnswers() {
        Desk x = new Desk();
        for (int n = 1; n <= 32; n++) {
            Checks.due("run of none " + n, x.run(n, 0), WarpDesk.OK);
            Checks.due("its threads", x.ran(4), n);
            Checks.due("its phases", x.ran(0), 1);
        }
        x.load("SET:0 ARG SET:1 THREAD SET:2 SIZE");
        int[] args = {0, 1, -1, MIN, MAX};
        for (int arg : args) {
            Checks.due("run", x.run(3, arg), WarpDesk.OK);
            Checks.due("ARG", x.variable(2, 0), arg);
            Checks.due("THREAD", x.variable(2, 1), 2);
            Checks.due("SIZE", x.variable(2, 2), 3);
        }
        Checks.due("an endless one", Desk.with("WHILE NUM:1 END").run(1, 0), WarpDesk.OVER);
        Checks.due("one thread is enough", Desk.with("WHILE = THREAD NUM:31 END").run(32, 0), WarpDesk.OVER);
        x = Desk.with("WHILE ARG END");
        Checks.due("over", x.run(2, 1), WarpDesk.OVER);
        Checks.due("the next one is not", x.run(2, 0), WarpDesk.OK);
    }

    private static void runRefusesAndChangesNothing() {
        Desk x = Desk.with("STORE NUM:1 + WORD NUM:1 NUM:1 ADD NUM:1 NUM:1 SET:0 NUM:4");
        Checks.due("run", x.run(2, 0), WarpDesk.OK);
        int[] odd = {0, -1, 33, 64, MIN, MAX};
        for (int n : odd) {
            Checks.due("run with " + n, x.run(n, 0), NONE);
        }
        x.load("SET:0");
        Checks.due("run of no program", x.run(1, 0), NONE);
        Checks.due("both wrong", x.run(0, 0), NONE);
        Checks.due("word", x.word(1), 1);
        Checks.due("counter", x.counter(1), 2);
        Checks.due("variable", x.variable(1, 0), 4);
        Checks.due("threads", x.ran(4), 2);
        Checks.due("statements", x.ran(1), 6);
        Checks.due("done", x.done(0), 2);
        Checks.due("tokens", x.wipe(), 12);
        x.load("END");
        Checks.due("run of END", x.run(1, 0), NONE);
        Checks.due("still the first run", x.ran(1), 6);
    }

    private static void operators() {
        value("+ NUM:2147483647 NUM:1", MIN);
        value("- NUM:-2147483648 NUM:1", MAX);
        value("- NUM:3 NUM:5", -2);
        value("* NUM:65536 NUM:65537", 65536);
        value("/ NUM:7 NUM:2", 3);
        value("/ NUM:-7 NUM:2", -3);
        value("/ NUM:7 NUM:-2", -3);
        value("/ NUM:7 NUM:0", 0);
        value("/ NUM:-2147483648 NUM:-1", MIN);
        value("% NUM:7 NUM:3", 1);
        value("% NUM:-7 NUM:3", -1);
        value("% NUM:7 NUM:-3", 1);
        value("% NUM:7 NUM:0", 0);
        value("% NUM:-2147483648 NUM:-1", 0);
        value("= NUM:4 NUM:4", 1);
        value("= NUM:4 NUM:5", 0);
        value("< NUM:4 NUM:5", 1);
        value("< NUM:5 NUM:5", 0);
        value("< NUM:6 NUM:5", 0);
        value("< NUM:-2147483648 NUM:2147483647", 1);
        value("AND NUM:2 NUM:4", 1);
        value("AND NUM:2 NUM:0", 0);
        value("AND NUM:0 NUM:2", 0);
        value("OR NUM:0 NUM:-4", 1);
        value("OR NUM:2 NUM:0", 1);
        value("OR NUM:0 NUM:0", 0);
        value("NOT NUM:0", 1);
        value("NOT NUM:-3", 0);
        value("NEG NUM:5", -5);
        value("NEG NUM:-2147483648", MIN);
        value("SELECT NUM:-1 NUM:8 NUM:9", 8);
        value("SELECT NUM:0 NUM:8 NUM:9", 9);
        value("- - NUM:9 NUM:3 - NUM:5 NUM:1", 2);
        value("SELECT SELECT NUM:1 NUM:0 NUM:1 NUM:8 SELECT NUM:1 - NUM:9 NUM:2 NUM:3", 7);
        value("SELECT NUM:1 NUM:2 ".repeat(5) + "NUM:3", 2);
        value("SELECT NUM:0 NUM:2 ".repeat(5) + "NUM:3", 3);
        value("- NUM:1 ".repeat(7) + "NEG NUM:4", 5);
        value("WORD NUM:-64", 100);
        value("WORD WORD NUM:64", 136);
        value("COUNTER NUM:65", 7);
    }

    private static void statements() {
        Desk x = Desk.with("IF THREAD SET:0 NUM:5 ELSE SET:1 NUM:6 END SET:2 NUM:7");
        x.run(2, 0);
        Checks.due("no", x.variable(0, 0) * 100 + x.variable(0, 1) * 10 + x.variable(0, 2), 67);
        Checks.due("yes", x.variable(1, 0) * 100 + x.variable(1, 1) * 10 + x.variable(1, 2), 507);
        Checks.due("steps of no", x.steps(0), 3);
        x = Desk.with("IF NUM:0 SET:0 NUM:5 END SET:1 NUM:6 IF NUM:-1 SET:2 NUM:1 RETURN END SET:3 NUM:1");
        x.run(1, 0);
        Checks.due("IF without ELSE", x.variable(0, 0) + x.variable(0, 1), 6);
        Checks.due("RETURN", x.variable(0, 2) * 10 + x.variable(0, 3), 10);
        Checks.due("steps to RETURN", x.steps(0), 5);
        x = Desk.with("SET:0 ARG WHILE VAR:0 SET:1 + VAR:1 VAR:0 SET:0 - VAR:0 NUM:1 WHILE NUM:0 END END SET:2 NUM:3");
        x.run(1, 4);
        Checks.due("WHILE", x.variable(0, 1), 10);
        Checks.due("behind WHILE", x.variable(0, 2), 3);
        Checks.due("steps of WHILE", x.steps(0), 1 + 4 * 4 + 1 + 1);
        x = Desk.with("IF THREAD IF - THREAD NUM:1 SET:0 NUM:2 ELSE SET:0 NUM:1 END ELSE IF ARG SET:0 NUM:9 END END");
        x.run(3, 1);
        Checks.due("nested", x.variable(0, 0) * 100 + x.variable(1, 0) * 10 + x.variable(2, 0), 912);
        Checks.due("steps of nested", x.ran(1), 9);
    }

    private static void memoryInPhases() {
        Desk x = Desk.with("STORE NUM:1 + THREAD NUM:10 SET:0 WORD NUM:1 STORE NUM:1 + THREAD NUM:20 SET:1 WORD NUM:1 "
            + "ADD NUM:1 NUM:3 SET:2 COUNTER NUM:1 BARRIER SET:3 WORD NUM:1 SET:4 COUNTER NUM:1");
        x.put(1, 99);
        x.run(3, 0);
        for (int t = 0; t < 3; t++) {
            Checks.due("its own store", x.variable(t, 0), 10 + t);
            Checks.due("its latest store", x.variable(t, 1), 20 + t);
            Checks.due("the counter at the phase's begin", x.variable(t, 2), 0);
            Checks.due("the last thread's store", x.variable(t, 3), 22);
            Checks.due("the counter in the next phase", x.variable(t, 4), 9);
        }
        x = Desk.with("IF = THREAD NUM:0 STORE NUM:5 NUM:1 BARRIER ELSE SET:0 WORD NUM:5 BARRIER SET:1 WORD NUM:5 END");
        x.put(5, 44);
        x.run(2, 0);
        Checks.due("another one's store is not seen", x.variable(1, 0), 44);
        Checks.due("before the next phase", x.variable(1, 1), 1);
        x = Desk.with("IF = THREAD ARG STORE NUM:5 THREAD END IF = THREAD NUM:0 BARRIER STORE NUM:5 NUM:77 END");
        x.run(4, 3);
        Checks.due("a later phase wins over a later thread", x.word(5), 77);
        x = Desk.with("STORE NUM:6 NUM:1 BARRIER SET:0 WORD NUM:6 STORE NUM:6 NUM:2");
        x.run(1, 0);
        x.put(6, 50);
        x.run(1, 0);
        Checks.due("stores of an earlier run are forgotten", x.variable(0, 0), 1);
    }

    private static void wordsByLowestBits() {
        Desk x = new Desk();
        for (int i = 0; i < 64; i++) {
            x.put(i, i * i + 1);
        }
        for (int i = -200; i <= 200; i++) {
            int cell = Math.floorMod(i, 64);
            Checks.due("word " + i, x.word(i), cell * cell + 1);
        }
        Checks.due("word MIN", x.word(MIN), 1);
        Checks.due("word MAX", x.word(MAX), 63 * 63 + 1);
        x = Desk.with("STORE - THREAD NUM:3 + THREAD NUM:100");
        x.run(32, 0);
        for (int t = 0; t < 32; t++) {
            Checks.due("word stored by " + t, x.word(t - 3), t + 100);
        }
    }

    private static void countersGrow() {
        Desk x = Desk.with("ADD ARG + THREAD NUM:1");
        x.run(32, -1);
        Checks.due("counter 63", x.counter(63), 528);
        Checks.due("counter -1", x.counter(-1), 528);
        Checks.due("counter MAX", x.counter(MAX), 528);
        Checks.due("no word", x.word(63), 0);
        x.run(2, 127);
        Checks.due("it grows", x.counter(63), 531);
        Checks.due("others do not", x.counter(0) + x.counter(MIN) + x.counter(62), 0);
        x = Desk.with("ADD NUM:4 NUM:2147483647 ADD NUM:4 NUM:2 ADD NUM:5 NUM:-3");
        x.run(1, 0);
        Checks.due("it wraps", x.counter(4), MIN + 1);
        Checks.due("it falls", x.counter(5), -3);
    }

    private static void variablesOfTheLatestRun() {
        Desk x = Desk.with("SET:0 + THREAD NUM:1 SET:5 + VAR:5 NUM:7 SET:1 VAR:2 SET:4 * VAR:0 VAR:5");
        x.run(32, 0);
        for (int t = 0; t < 32; t++) {
            Checks.due("variable 0", x.variable(t, 0), t + 1);
            Checks.due("variable 5", x.variable(t, 5), 7);
            Checks.due("variable 1", x.variable(t, 1), 0);
            Checks.due("variable 4", x.variable(t, 4), 7 * (t + 1));
        }
        int[] oddThreads = {-1, 32, 64, MIN, MAX};
        int[] oddVariables = {-1, 6, 64, MIN, MAX};
        for (int t : oddThreads) {
            Checks.due("variable of thread " + t, x.variable(t, 0), 0);
        }
        for (int v : oddVariables) {
            Checks.due("variable " + v, x.variable(2, v), 0);
        }
        x.run(2, 0);
        Checks.due("variables are 0 at first", x.variable(1, 5), 7);
        Checks.due("no such thread in the latest run", x.variable(2, 0), 0);
        x.wipe();
        x.run(32, 0);
        Checks.due("none set", x.variable(1, 5) + x.variable(31, 0), 0);
    }

    private static void ranTellsOfTheLatestRun() {
        Desk x = Desk.with("SET:0 THREAD WHILE VAR:0 SET:0 - VAR:0 NUM:1 BARRIER END STORE NUM:0 NUM:0");
        x.run(4, 0);
        Checks.due("phases", x.ran(0), 4);
        Checks.due("statements", x.ran(1), 4 * 3 + 3 * (1 + 2 + 3));
        Checks.due("the most", x.ran(2), 12);
        Checks.due("races", x.ran(3), 0);
        Checks.due("threads", x.ran(4), 4);
        int[] odd = {-1, 5, 6, 64, MIN, MAX};
        for (int what : odd) {
            Checks.due("ran " + what, x.ran(what), 0);
        }
        x.run(1, 0);
        Checks.due("phases of the next", x.ran(0), 1);
        Checks.due("statements of the next", x.ran(1), 3);
        Checks.due("the most of the next", x.ran(2), 3);
        Checks.due("threads of the next", x.ran(4), 1);
        x = Desk.with("IF = THREAD NUM:1 SET:0 NUM:1 SET:0 NUM:1 END");
        x.run(3, 0);
        Checks.due("the most by one in the middle", x.ran(2), 3);
    }

    private static void races() {
        raced("STORE NUM:0 NUM:1", 1, 0);
        raced("STORE NUM:0 NUM:1", 2, 1);
        raced("STORE NUM:0 NUM:1", 32, 1);
        raced("STORE THREAD NUM:1", 32, 0);
        raced("SET:0 WORD NUM:0", 32, 0);
        raced("STORE NUM:0 WORD NUM:0", 1, 0);
        raced("STORE THREAD WORD THREAD", 32, 0);
        raced("STORE NUM:0 NUM:1 STORE NUM:64 NUM:2 STORE NUM:1 NUM:1", 3, 2);
        raced("IF = THREAD NUM:31 STORE NUM:0 NUM:1 ELSE SET:0 WORD NUM:0 END", 32, 1);
        raced("IF = THREAD NUM:0 STORE NUM:0 NUM:1 ELSE SET:0 WORD NUM:0 END", 2, 1);
        raced("IF = THREAD NUM:0 STORE NUM:0 NUM:1 BARRIER ELSE BARRIER SET:0 WORD NUM:0 END", 2, 0);
        raced("IF = THREAD NUM:1 STORE NUM:0 NUM:1 END BARRIER SET:0 WORD NUM:0", 5, 0);
        raced("IF THREAD SET:0 WORD NUM:0 BARRIER ELSE BARRIER STORE NUM:0 NUM:1 END", 2, 0);
        raced("IF THREAD STORE NUM:0 WORD NUM:0 ELSE SET:0 WORD NUM:0 END", 2, 1);
        raced("STORE NUM:0 NUM:1 IF THREAD SET:0 WORD NUM:0 END", 2, 1);
        raced("STORE NUM:0 NUM:1 SET:0 WORD NUM:0", 2, 1);
        raced("STORE NUM:0 NUM:1 BARRIER STORE NUM:0 NUM:1 STORE NUM:9 NUM:1", 2, 3);
        raced("STORE WORD NUM:3 NUM:1", 2, 1);
        raced("IF THREAD STORE NUM:7 NUM:1 ELSE STORE WORD NUM:7 NUM:1 END", 2, 1);
        raced("IF THREAD STORE NUM:7 NUM:1 ELSE IF WORD NUM:7 END END", 2, 1);
        raced("IF THREAD STORE NUM:7 NUM:1 ELSE ADD WORD NUM:7 NUM:1 END", 2, 1);
        raced("IF THREAD STORE NUM:7 NUM:1 ELSE ADD NUM:7 NUM:1 END", 2, 0);
        raced("IF THREAD STORE NUM:7 NUM:1 ELSE SET:0 COUNTER NUM:7 END", 2, 0);
        raced("ADD NUM:7 COUNTER NUM:7", 32, 0);
        Desk x = Desk.with("STORE NUM:0 NUM:1");
        x.run(2, 0);
        x.run(1, 0);
        Checks.due("races of the latest run alone", x.ran(3), 0);
    }

    private static void stepsOfThreads() {
        Desk x = Desk.with("SET:0 THREAD WHILE VAR:0 SET:0 - VAR:0 NUM:1 END");
        x.run(32, 0);
        for (int t = 0; t < 32; t++) {
            Checks.due("steps " + t, x.steps(t), 2 + 2 * t);
        }
        int[] odd = {-1, 32, 64, MIN, MAX};
        for (int t : odd) {
            Checks.due("steps " + t, x.steps(t), 0);
        }
        x.run(2, 0);
        Checks.due("steps of the latest run", x.steps(1), 4);
        Checks.due("no such thread in it", x.steps(2), 0);
    }

    private static void doneByToken() {
        Desk x = Desk.with("WHILE < VAR:0 THREAD SET:0 + VAR:0 NUM:1 IF = THREAD NUM:2 BARRIER ELSE ADD NUM:0 NUM:1 END END RETURN");
        x.run(3, 0);
        int[] want = new int[64];
        want[0] = 3 + 1 + 2;
        want[4] = 3;
        want[8] = 3;
        want[12] = 2;
        want[14] = 1;
        want[19] = 3;
        for (int k = 0; k < 64; k++) {
            Checks.due("done " + k, x.done(k), want[k]);
        }
        int[] odd = {-1, 64, 65, MIN, MAX};
        for (int k : odd) {
            Checks.due("done " + k, x.done(k), 0);
        }
        x.wipe();
        x.load("NUM:1");
        Checks.due("other tokens", x.done(19), 3);
        x.wipe();
        x.load("BARRIER ".repeat(63) + "RETURN");
        x.run(5, 0);
        Checks.due("the last token", x.done(63), 5);
        Checks.due("the latest run", x.done(0), 5);
        x.wipe();
        x.run(1, 0);
        Checks.due("a run of nothing", x.done(0) + x.done(63), 0);
    }

    private static void allOperandsAreWorkedOut() {
        String store = "IF THREAD STORE NUM:3 NUM:1 ELSE SET:0 ";
        String[] operators = {"AND NUM:0 WORD NUM:3", "OR NUM:1 WORD NUM:3", "SELECT NUM:1 NUM:5 WORD NUM:3",
            "SELECT NUM:0 WORD NUM:3 NUM:5", "* NUM:0 WORD NUM:3", "/ WORD NUM:3 NUM:0", "% WORD NUM:3 NUM:0",
            "AND WORD NUM:3 NUM:0", "SELECT WORD NUM:3 NUM:1 NUM:1", "AND NUM:0 AND NUM:0 WORD NUM:3"};
        for (String operator : operators) {
            raced(store + operator + " END", 2, 1);
        }
        Desk x = Desk.with("STORE NUM:2 NUM:30 STORE NUM:40 NUM:3 ADD NUM:4 NUM:50");
        x.run(1, 0);
        Checks.due("the index is first", x.word(2) * 10 + x.word(40), 303);
        Checks.due("the counter's index is first", x.counter(4), 50);
        Checks.due("and not second", x.word(30) + x.word(3) + x.counter(50), 0);
    }

    private static void barrierAtTheEnd() {
        Desk x = Desk.with("BARRIER");
        Checks.due("run", x.run(3, 0), WarpDesk.OK);
        Checks.due("phases", x.ran(0), 2);
        Checks.due("statements", x.ran(1), 3);
        x = Desk.with("IF THREAD BARRIER END");
        x.run(1, 0);
        Checks.due("no one does it", x.ran(0), 1);
        x.run(2, 0);
        Checks.due("one does it", x.ran(0), 2);
        x = Desk.with("BARRIER RETURN");
        x.run(2, 0);
        Checks.due("RETURN behind it", x.ran(0), 2);
    }

    private static void theLimitOfSteps() {
        // A loop of two statements and one more WHILE: 1 + 2 * ARG + 1 statements, and then those behind it.
        String loop = "SET:0 ARG WHILE VAR:0 SET:0 - VAR:0 NUM:1 END ";
        limit(loop, 149, 300, WarpDesk.OK, 1);
        limit(loop, 150, 300, WarpDesk.OVER, 1);
        limit(loop + "RETURN", 149, 300, WarpDesk.OVER, 1);
        limit(loop + "RETURN", 148, 299, WarpDesk.OK, 1);
        limit("SET:1 NUM:1 " + loop + "RETURN", 148, 300, WarpDesk.OK, 1);
        limit("SET:1 NUM:1 " + loop + "BARRIER", 148, 300, WarpDesk.OK, 2);
        limit("SET:1 NUM:1 " + loop + "BARRIER SET:1 NUM:1", 148, 300, WarpDesk.OVER, 2);
        limit("SET:1 NUM:1 " + loop + "IF NUM:1 ELSE SET:1 NUM:1 END", 148, 300, WarpDesk.OK, 1);
        limit("SET:1 NUM:1 " + loop + "IF NUM:0 SET:1 NUM:1 END", 148, 300, WarpDesk.OK, 1);
        limit("SET:1 NUM:1 " + loop + "IF NUM:1 BARRIER END", 148, 300, WarpDesk.OVER, 1);
        limit("WHILE NUM:1 BARRIER END", 0, 300, WarpDesk.OVER, 151);
        limit("WHILE NUM:1 " + "BARRIER ".repeat(59) + "END", 0, 300, WarpDesk.OVER, 296);
    }

    private static void whatAnOverlongThreadLeaves() {
        Desk x = Desk.with("IF THREAD BARRIER SET:0 WORD NUM:1 SET:1 COUNTER NUM:1 BARRIER STORE NUM:2 NUM:8 ELSE "
            + "STORE NUM:1 NUM:5 ADD NUM:1 NUM:6 WHILE NUM:1 SET:2 + VAR:2 NUM:1 END END");
        Checks.due("run", x.run(2, 0), WarpDesk.OVER);
        Checks.due("its store counts", x.variable(1, 0), 5);
        Checks.due("its sum counts", x.variable(1, 1), 6);
        Checks.due("the other one goes on", x.word(2), 8);
        Checks.due("phases", x.ran(0), 3);
        Checks.due("its steps", x.steps(0), 300);
        Checks.due("its variable", x.variable(0, 2), 148);
        Checks.due("the other one's steps", x.steps(1), 6);
        Checks.due("done", x.done(20), 149);
        Checks.due("the statement not done", x.done(22), 148);
    }

    private static void limit(String text, int arg, int steps, int answer, int phases) {
        Desk x = Desk.with(text.trim());
        Checks.due("run(2, " + arg + ") of " + text, x.run(2, arg), answer);
        Checks.due("steps of " + text, x.steps(0), steps);
        Checks.due("all steps of " + text, x.ran(1), 2 * steps);
        Checks.due("phases of " + text, x.ran(0), phases);
    }

    private static void raced(String text, int threads, int want) {
        Desk x = Desk.with(text);
        x.run(threads, 0);
        Checks.due("races of " + text + " with " + threads, x.ran(3), want);
    }

    private static void value(String expression, int want) {
        Desk x = Desk.with("ADD NUM:1 NUM:7 BARRIER SET:4 " + expression);
        x.put(0, 100);
        x.put(36, 136);
        Checks.due("run", x.run(1, 0), WarpDesk.OK);
        Checks.due(expression, x.variable(0, 4), want);
    }

    private static void fault(String text, int want) {
        Desk x = Desk.with(text);
        Checks.due("wrong of " + text, x.wrong(), want);
        Checks.due("wrong again of " + text, x.wrong(), want);
        Checks.due("run of " + text, x.run(1, 0) == NONE ? 1 : 0, want == NONE ? 0 : 1);
    }

    private static void promise(int number, String what, Runnable test) {
        Checks.holds("Promise " + number, what, test);
    }
}

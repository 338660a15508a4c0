import java.util.Map;

/** For each promise of the document its ordinary inputs, the edges that it names, and wrong inputs. */
public final class Promises {
    private static final int MIN = Integer.MIN_VALUE, MAX = Integer.MAX_VALUE, NONE = WarpDesk.NONE;
    private static final Map<String, Integer> KINDS = Map.ofEntries(
        Map.entry("SET", 0), Map.entry("STORE", 1), Map.entry("ADD", 2), Map.entry("IF", 3), Map.entry("ELSE", 4),
        Map.entry("END", 5), Map.entry("WHILE", 6), Map.entry("BARRIER", 7), Map.entry("RETURN", 8),
        Map.entry("NUM", 10), Map.entry("VAR", 11), Map.entry("THREAD", 12), Map.entry("SIZE", 13),
        Map.entry("ARG", 14), Map.entry("WORD", 15), Map.entry("COUNTER", 16), Map.entry("+", 20),
        Map.entry("-", 21), Map.entry("*", 22), Map.entry("/", 23), Map.entry("%", 24), Map.entry("=", 25),
        Map.entry("<", 26), Map.entry("AND", 27), Map.entry("OR", 28), Map.entry("NOT", 29), Map.entry("NEG", 30),
        Map.entry("SELECT", 31));

    private static int promise = 0;
    private static int failures = 0;

    public static void main(String[] args) {
        promise = 1;
        newObject();
        promise = 2;
        tokenAppends();
        tokenRefuses();
        promise = 3;
        wipeRemoves();
        promise = 4;
        wrongTellsTheFirstFault();
        wrongTellsWhatIsMissing();
        wrongCountsExpressions();
        promise = 5;
        putAnswersWhatWas();
        promise = 6;
        zeroClearsMemoryAlone();
        promise = 7;
        runAnswers();
        runRefusesAndChangesNothing();
        operators();
        statements();
        memoryInPhases();
        promise = 8;
        wordsByLowestBits();
        promise = 9;
        countersGrow();
        promise = 10;
        variablesOfTheLatestRun();
        promise = 11;
        ranTellsOfTheLatestRun();
        races();
        promise = 12;
        stepsOfThreads();
        promise = 13;
        doneByToken();
        promise = 14;
        allOperandsAreWorkedOut();
        barrierAtTheEnd();
        theLimitOfSteps();
        whatAnOverlongThreadLeaves();
        System.out.println(failures == 0 ? "all promises hold" : failures + " answers are not as due");
        if (failures != 0) {
            System.exit(1);
        }
    }

    private static void newObject() {
        WarpDesk x = new WarpDesk();
        due("constants", WarpDesk.OK == 0 && WarpDesk.OVER == 1 && WarpDesk.NONE == -1 ? 1 : 0, 1);
        for (int i = 0; i < 64; i++) {
            due("word " + i, x.word(i), 0);
            due("counter " + i, x.counter(i), 0);
            due("done " + i, x.done(i), 0);
        }
        for (int what = -1; what <= 5; what++) {
            due("ran " + what, x.ran(what), 0);
        }
        for (int t = -1; t <= 32; t++) {
            due("steps " + t, x.steps(t), 0);
            due("variable of " + t, x.variable(t, 0), 0);
        }
        due("wrong", x.wrong(), NONE);
        due("wipe", x.wipe(), 0);
    }

    private static void tokenAppends() {
        for (int kind = -70; kind <= 140; kind++) {
            boolean known = kind >= 0 && kind <= 8 || kind >= 10 && kind <= 16 || kind >= 20 && kind <= 31;
            WarpDesk x = new WarpDesk();
            due("kind " + kind, x.token(kind, 3), known ? 1 : NONE);
            boolean limited = kind == 0 || kind == 11;
            int[] odd = {-1, 6, 64, MIN, MAX};
            for (int value : odd) {
                x.wipe();
                due("kind " + kind + " value " + value, x.token(kind, value), known && !limited ? 1 : NONE);
            }
        }
        due("kind MIN", new WarpDesk().token(MIN, 0), NONE);
        due("kind MAX", new WarpDesk().token(MAX, 0), NONE);
        WarpDesk x = new WarpDesk();
        for (int v = 0; v <= 5; v++) {
            due("SET " + v, x.token(0, v), 2 * v + 1);
            due("VAR " + v, x.token(11, v), 2 * v + 2);
        }
    }

    private static void tokenRefuses() {
        WarpDesk x = new WarpDesk();
        for (int i = 1; i <= 64; i++) {
            due("token " + i, x.token(7, 0), i);
        }
        due("token 65", x.token(8, 0), NONE);
        due("token 65 again", x.token(7, 0), NONE);
        due("64 barriers are left", x.run(1, 0), WarpDesk.OK);
        due("their phases", x.ran(0), 65);
        due("64 are left", x.wipe(), 64);
        load(x, "SET:2 NUM:5");
        due("refused kind", x.token(9, 0), NONE);
        due("refused variable", x.token(0, 6), NONE);
        due("refused VAR", x.token(11, -1), NONE);
        due("refused tokens change nothing", x.wrong(), NONE);
        due("they are not counted", x.wipe(), 2);
    }

    private static void wipeRemoves() {
        WarpDesk x = loaded("SET:3 NUM:7 STORE NUM:2 NUM:9 ADD NUM:2 NUM:4");
        x.run(2, 0);
        due("wipe", x.wipe(), 8);
        due("wipe again", x.wipe(), 0);
        due("wrong", x.wrong(), NONE);
        due("word stays", x.word(2), 9);
        due("counter stays", x.counter(2), 8);
        due("variable stays", x.variable(1, 3), 7);
        due("steps stay", x.steps(0), 3);
        due("what ran stays", x.ran(0) * 100 + x.ran(1) * 10 + x.ran(4), 162);
        due("done stays", x.done(5), 2);
        due("token after wipe", x.token(8, 0), 1);
    }

    private static void wrongTellsTheFirstFault() {
        fault("SET:0 NUM:1 NUM:2", 2);
        fault("VAR:0", 0);
        fault("SELECT", 0);
        fault("ELSE", 0);
        fault("END", 0);
        fault("SET:0 SET:0", 1);
        fault("SET:0 END", 1);
        fault("STORE NUM:1 BARRIER NUM:2", 2);
        fault("ADD NUM:1 RETURN", 2);
        fault("BARRIER RETURN NUM:0", 2);
        fault("IF ELSE", 1);
        fault("IF NUM:1 ELSE ELSE END", 3);
        fault("IF NUM:1 ELSE END ELSE END", 4);
        fault("IF NUM:1 END END", 3);
        fault("WHILE NUM:1 ELSE END", 2);
        fault("WHILE NUM:1 IF NUM:1 ELSE END ELSE END", 6);
        fault("IF NUM:1 WHILE NUM:1 ELSE END END", 4);
        fault("IF NUM:1 ELSE WHILE NUM:0 END ELSE END", 6);
        fault("IF NUM:1 ELSE IF NUM:1 ELSE END ELSE END", 7);
        fault("SET:0 + NUM:1 IF NUM:1 END", 3);
        fault("SET:0 WORD BARRIER", 2);
        fault("SET:0 SELECT NUM:1 NUM:2 SET:0 NUM:1", 4);
        fault("", NONE);
        fault("SET:0 WORD COUNTER NEG NOT NUM:1", NONE);
        fault("IF NUM:1 END", NONE);
        fault("IF NUM:1 ELSE END", NONE);
        fault("WHILE NUM:0 END", NONE);
        fault("IF NUM:1 WHILE NUM:0 IF NUM:0 BARRIER ELSE RETURN END END ELSE IF NUM:1 END END RETURN", NONE);
    }

    private static void wrongTellsWhatIsMissing() {
        fault("SET:0", 1);
        fault("SET:0 +", 2);
        fault("SET:0 SELECT NUM:1 NUM:1", 4);
        fault("STORE", 1);
        fault("STORE NUM:1", 2);
        fault("ADD NUM:1", 2);
        fault("IF", 1);
        fault("IF NUM:1", 2);
        fault("IF NUM:1 ELSE", 3);
        fault("WHILE NUM:1 BARRIER", 3);
        fault("IF NUM:1 IF NUM:1 END", 5);
        fault("IF NUM:1 ".repeat(32).trim(), 64);
        fault("IF NUM:1 ".repeat(21) + "END ".repeat(21).trim(), NONE);
        fault("WHILE NUM:0 ".repeat(22) + "END ".repeat(20).trim(), 64);
    }

    private static void wrongCountsExpressions() {
        fault("SET:0 " + "NEG ".repeat(15) + "NUM:1", NONE);
        fault("SET:0 " + "NEG ".repeat(16) + "NUM:1", 17);
        fault("SET:0 " + "NEG ".repeat(16).trim(), 17);
        fault("SET:0 " + "NEG ".repeat(16) + "BARRIER", 17);
        fault("SET:0 " + "NEG ".repeat(14) + "BARRIER", 15);
        fault("SET:0 " + "SELECT ".repeat(16).trim(), 17);
        fault("SET:0 " + "SELECT ".repeat(17).trim(), 17);
        fault("SET:0 " + "SELECT ".repeat(40).trim(), 17);
        fault("SET:0 " + "SELECT ".repeat(15) + "BARRIER", 16);
        fault("SET:0 " + "SELECT NUM:1 NUM:2 ".repeat(5) + "NUM:3", NONE);
        fault("SET:0 " + "+ NUM:1 ".repeat(8) + "NUM:1", 17);
        String sixteen = "NOT " + "+ NUM:1 ".repeat(7) + "NUM:1";
        fault("STORE " + sixteen + " " + sixteen, NONE);
        fault("STORE " + sixteen + " NOT " + sixteen, 33);
        fault("STORE NOT " + sixteen + " " + sixteen, 17);
        fault("IF " + sixteen + " ADD " + sixteen + " NUM:1 END", NONE);
        fault("STORE NUM:1 " + sixteen + " BARRIER " + "WHILE NOT " + sixteen, 36);
    }

    private static void putAnswersWhatWas() {
        WarpDesk x = new WarpDesk();
        due("put", x.put(3, 11), 0);
        due("put again", x.put(3, -12), 11);
        due("put at 67", x.put(67, MAX), -12);
        due("put at -61", x.put(-61, MIN), MAX);
        due("the word", x.word(3), MIN);
        due("put at MIN", x.put(MIN, 5), 0);
        due("put at 0", x.put(0, 6), 5);
        due("put at MAX", x.put(MAX, 7), 0);
        due("put at -1", x.put(-1, 8), 7);
        due("put at 63", x.put(63, 9), 8);
        due("neighbours", x.word(2) + x.word(4), 0);
        due("counters", x.counter(3) + x.counter(0) + x.counter(63), 0);
        due("no run", x.ran(4), 0);
    }

    private static void zeroClearsMemoryAlone() {
        WarpDesk x = loaded("STORE THREAD NUM:4 STORE + THREAD SIZE NUM:4 ADD THREAD NUM:5 ADD + THREAD SIZE NUM:5 SET:1 NUM:6");
        x.run(32, 0);
        due("before", x.word(63) + x.counter(63) + x.word(0) + x.counter(0), 18);
        x.zero();
        for (int i = 0; i < 64; i++) {
            due("word " + i, x.word(i), 0);
            due("counter " + i, x.counter(i), 0);
        }
        due("variables stay", x.variable(31, 1), 6);
        due("the run stays", x.ran(1), 160);
        due("done stays", x.done(0), 32);
        due("tokens stay", x.wipe(), 18);
    }

    private static void runAnswers() {
        WarpDesk x = new WarpDesk();
        for (int n = 1; n <= 32; n++) {
            due("run of none " + n, x.run(n, 0), WarpDesk.OK);
            due("its threads", x.ran(4), n);
            due("its phases", x.ran(0), 1);
        }
        load(x, "SET:0 ARG SET:1 THREAD SET:2 SIZE");
        int[] args = {0, 1, -1, MIN, MAX};
        for (int arg : args) {
            due("run", x.run(3, arg), WarpDesk.OK);
            due("ARG", x.variable(2, 0), arg);
            due("THREAD", x.variable(2, 1), 2);
            due("SIZE", x.variable(2, 2), 3);
        }
        due("an endless one", loaded("WHILE NUM:1 END").run(1, 0), WarpDesk.OVER);
        due("one thread is enough", loaded("WHILE = THREAD NUM:31 END").run(32, 0), WarpDesk.OVER);
        x = loaded("WHILE ARG END");
        due("over", x.run(2, 1), WarpDesk.OVER);
        due("the next one is not", x.run(2, 0), WarpDesk.OK);
    }

    private static void runRefusesAndChangesNothing() {
        WarpDesk x = loaded("STORE NUM:1 + WORD NUM:1 NUM:1 ADD NUM:1 NUM:1 SET:0 NUM:4");
        due("run", x.run(2, 0), WarpDesk.OK);
        int[] odd = {0, -1, 33, 64, MIN, MAX};
        for (int n : odd) {
            due("run with " + n, x.run(n, 0), NONE);
        }
        load(x, "SET:0");
        due("run of no program", x.run(1, 0), NONE);
        due("both wrong", x.run(0, 0), NONE);
        due("word", x.word(1), 1);
        due("counter", x.counter(1), 2);
        due("variable", x.variable(1, 0), 4);
        due("threads", x.ran(4), 2);
        due("statements", x.ran(1), 6);
        due("done", x.done(0), 2);
        due("tokens", x.wipe(), 12);
        load(x, "END");
        due("run of END", x.run(1, 0), NONE);
        due("still the first run", x.ran(1), 6);
    }

    private static void operators() {
        value("+ NUM:2147483647 NUM:1", MIN);
        value("- NUM:-2147483648 NUM:1", MAX);
        value("- NUM:3 NUM:5", -2);
        value("* NUM:65536 NUM:65537", 65536);
        value("/ NUM:7 NUM:2", 3);
        value("/ NUM:-7 NUM:2", -3);
        value("/ NUM:7 NUM:-2", -3);
        value("/ NUM:7 NUM:0", 0);
        value("/ NUM:-2147483648 NUM:-1", MIN);
        value("% NUM:7 NUM:3", 1);
        value("% NUM:-7 NUM:3", -1);
        value("% NUM:7 NUM:-3", 1);
        value("% NUM:7 NUM:0", 0);
        value("% NUM:-2147483648 NUM:-1", 0);
        value("= NUM:4 NUM:4", 1);
        value("= NUM:4 NUM:5", 0);
        value("< NUM:4 NUM:5", 1);
        value("< NUM:5 NUM:5", 0);
        value("< NUM:6 NUM:5", 0);
        value("< NUM:-2147483648 NUM:2147483647", 1);
        value("AND NUM:2 NUM:4", 1);
        value("AND NUM:2 NUM:0", 0);
        value("AND NUM:0 NUM:2", 0);
        value("OR NUM:0 NUM:-4", 1);
        value("OR NUM:2 NUM:0", 1);
        value("OR NUM:0 NUM:0", 0);
        value("NOT NUM:0", 1);
        value("NOT NUM:-3", 0);
        value("NEG NUM:5", -5);
        value("NEG NUM:-2147483648", MIN);
        value("SELECT NUM:-1 NUM:8 NUM:9", 8);
        value("SELECT NUM:0 NUM:8 NUM:9", 9);
        value("- - NUM:9 NUM:3 - NUM:5 NUM:1", 2);
        value("SELECT SELECT NUM:1 NUM:0 NUM:1 NUM:8 SELECT NUM:1 - NUM:9 NUM:2 NUM:3", 7);
        value("SELECT NUM:1 NUM:2 ".repeat(5) + "NUM:3", 2);
        value("SELECT NUM:0 NUM:2 ".repeat(5) + "NUM:3", 3);
        value("- NUM:1 ".repeat(7) + "NEG NUM:4", 5);
        value("WORD NUM:-64", 100);
        value("WORD WORD NUM:64", 136);
        value("COUNTER NUM:65", 7);
    }

    private static void statements() {
        WarpDesk x = loaded("IF THREAD SET:0 NUM:5 ELSE SET:1 NUM:6 END SET:2 NUM:7");
        x.run(2, 0);
        due("no", x.variable(0, 0) * 100 + x.variable(0, 1) * 10 + x.variable(0, 2), 67);
        due("yes", x.variable(1, 0) * 100 + x.variable(1, 1) * 10 + x.variable(1, 2), 507);
        due("steps of no", x.steps(0), 3);
        x = loaded("IF NUM:0 SET:0 NUM:5 END SET:1 NUM:6 IF NUM:-1 SET:2 NUM:1 RETURN END SET:3 NUM:1");
        x.run(1, 0);
        due("IF without ELSE", x.variable(0, 0) + x.variable(0, 1), 6);
        due("RETURN", x.variable(0, 2) * 10 + x.variable(0, 3), 10);
        due("steps to RETURN", x.steps(0), 5);
        x = loaded("SET:0 ARG WHILE VAR:0 SET:1 + VAR:1 VAR:0 SET:0 - VAR:0 NUM:1 WHILE NUM:0 END END SET:2 NUM:3");
        x.run(1, 4);
        due("WHILE", x.variable(0, 1), 10);
        due("behind WHILE", x.variable(0, 2), 3);
        due("steps of WHILE", x.steps(0), 1 + 4 * 4 + 1 + 1);
        x = loaded("IF THREAD IF - THREAD NUM:1 SET:0 NUM:2 ELSE SET:0 NUM:1 END ELSE IF ARG SET:0 NUM:9 END END");
        x.run(3, 1);
        due("nested", x.variable(0, 0) * 100 + x.variable(1, 0) * 10 + x.variable(2, 0), 912);
        due("steps of nested", x.ran(1), 9);
    }

    private static void memoryInPhases() {
        WarpDesk x = loaded("STORE NUM:1 + THREAD NUM:10 SET:0 WORD NUM:1 STORE NUM:1 + THREAD NUM:20 SET:1 WORD NUM:1 "
            + "ADD NUM:1 NUM:3 SET:2 COUNTER NUM:1 BARRIER SET:3 WORD NUM:1 SET:4 COUNTER NUM:1");
        x.put(1, 99);
        x.run(3, 0);
        for (int t = 0; t < 3; t++) {
            due("its own store", x.variable(t, 0), 10 + t);
            due("its latest store", x.variable(t, 1), 20 + t);
            due("the counter at the phase's begin", x.variable(t, 2), 0);
            due("the last thread's store", x.variable(t, 3), 22);
            due("the counter in the next phase", x.variable(t, 4), 9);
        }
        x = loaded("IF = THREAD NUM:0 STORE NUM:5 NUM:1 BARRIER ELSE SET:0 WORD NUM:5 BARRIER SET:1 WORD NUM:5 END");
        x.put(5, 44);
        x.run(2, 0);
        due("another one's store is not seen", x.variable(1, 0), 44);
        due("before the next phase", x.variable(1, 1), 1);
        x = loaded("IF = THREAD ARG STORE NUM:5 THREAD END IF = THREAD NUM:0 BARRIER STORE NUM:5 NUM:77 END");
        x.run(4, 3);
        due("a later phase wins over a later thread", x.word(5), 77);
        x = loaded("STORE NUM:6 NUM:1 BARRIER SET:0 WORD NUM:6 STORE NUM:6 NUM:2");
        x.run(1, 0);
        x.put(6, 50);
        x.run(1, 0);
        due("stores of an earlier run are forgotten", x.variable(0, 0), 1);
    }

    private static void wordsByLowestBits() {
        WarpDesk x = new WarpDesk();
        for (int i = 0; i < 64; i++) {
            x.put(i, i * i + 1);
        }
        for (int i = -200; i <= 200; i++) {
            int cell = Math.floorMod(i, 64);
            due("word " + i, x.word(i), cell * cell + 1);
        }
        due("word MIN", x.word(MIN), 1);
        due("word MAX", x.word(MAX), 63 * 63 + 1);
        x = loaded("STORE - THREAD NUM:3 + THREAD NUM:100");
        x.run(32, 0);
        for (int t = 0; t < 32; t++) {
            due("word stored by " + t, x.word(t - 3), t + 100);
        }
    }

    private static void countersGrow() {
        WarpDesk x = loaded("ADD ARG + THREAD NUM:1");
        x.run(32, -1);
        due("counter 63", x.counter(63), 528);
        due("counter -1", x.counter(-1), 528);
        due("counter MAX", x.counter(MAX), 528);
        due("no word", x.word(63), 0);
        x.run(2, 127);
        due("it grows", x.counter(63), 531);
        due("others do not", x.counter(0) + x.counter(MIN) + x.counter(62), 0);
        x = loaded("ADD NUM:4 NUM:2147483647 ADD NUM:4 NUM:2 ADD NUM:5 NUM:-3");
        x.run(1, 0);
        due("it wraps", x.counter(4), MIN + 1);
        due("it falls", x.counter(5), -3);
    }

    private static void variablesOfTheLatestRun() {
        WarpDesk x = loaded("SET:0 + THREAD NUM:1 SET:5 + VAR:5 NUM:7 SET:1 VAR:2 SET:4 * VAR:0 VAR:5");
        x.run(32, 0);
        for (int t = 0; t < 32; t++) {
            due("variable 0", x.variable(t, 0), t + 1);
            due("variable 5", x.variable(t, 5), 7);
            due("variable 1", x.variable(t, 1), 0);
            due("variable 4", x.variable(t, 4), 7 * (t + 1));
        }
        int[] oddThreads = {-1, 32, 64, MIN, MAX};
        int[] oddVariables = {-1, 6, 64, MIN, MAX};
        for (int t : oddThreads) {
            due("variable of thread " + t, x.variable(t, 0), 0);
        }
        for (int v : oddVariables) {
            due("variable " + v, x.variable(2, v), 0);
        }
        x.run(2, 0);
        due("variables are 0 at first", x.variable(1, 5), 7);
        due("no such thread in the latest run", x.variable(2, 0), 0);
        x.wipe();
        x.run(32, 0);
        due("none set", x.variable(1, 5) + x.variable(31, 0), 0);
    }

    private static void ranTellsOfTheLatestRun() {
        WarpDesk x = loaded("SET:0 THREAD WHILE VAR:0 SET:0 - VAR:0 NUM:1 BARRIER END STORE NUM:0 NUM:0");
        x.run(4, 0);
        due("phases", x.ran(0), 4);
        due("statements", x.ran(1), 4 * 3 + 3 * (1 + 2 + 3));
        due("the most", x.ran(2), 12);
        due("races", x.ran(3), 0);
        due("threads", x.ran(4), 4);
        int[] odd = {-1, 5, 6, 64, MIN, MAX};
        for (int what : odd) {
            due("ran " + what, x.ran(what), 0);
        }
        x.run(1, 0);
        due("phases of the next", x.ran(0), 1);
        due("statements of the next", x.ran(1), 3);
        due("the most of the next", x.ran(2), 3);
        due("threads of the next", x.ran(4), 1);
        x = loaded("IF = THREAD NUM:1 SET:0 NUM:1 SET:0 NUM:1 END");
        x.run(3, 0);
        due("the most by one in the middle", x.ran(2), 3);
    }

    private static void races() {
        raced("STORE NUM:0 NUM:1", 1, 0);
        raced("STORE NUM:0 NUM:1", 2, 1);
        raced("STORE NUM:0 NUM:1", 32, 1);
        raced("STORE THREAD NUM:1", 32, 0);
        raced("SET:0 WORD NUM:0", 32, 0);
        raced("STORE NUM:0 WORD NUM:0", 1, 0);
        raced("STORE THREAD WORD THREAD", 32, 0);
        raced("STORE NUM:0 NUM:1 STORE NUM:64 NUM:2 STORE NUM:1 NUM:1", 3, 2);
        raced("IF = THREAD NUM:31 STORE NUM:0 NUM:1 ELSE SET:0 WORD NUM:0 END", 32, 1);
        raced("IF = THREAD NUM:0 STORE NUM:0 NUM:1 ELSE SET:0 WORD NUM:0 END", 2, 1);
        raced("IF = THREAD NUM:0 STORE NUM:0 NUM:1 BARRIER ELSE BARRIER SET:0 WORD NUM:0 END", 2, 0);
        raced("IF = THREAD NUM:1 STORE NUM:0 NUM:1 END BARRIER SET:0 WORD NUM:0", 5, 0);
        raced("IF THREAD SET:0 WORD NUM:0 BARRIER ELSE BARRIER STORE NUM:0 NUM:1 END", 2, 0);
        raced("IF THREAD STORE NUM:0 WORD NUM:0 ELSE SET:0 WORD NUM:0 END", 2, 1);
        raced("STORE NUM:0 NUM:1 IF THREAD SET:0 WORD NUM:0 END", 2, 1);
        raced("STORE NUM:0 NUM:1 SET:0 WORD NUM:0", 2, 1);
        raced("STORE NUM:0 NUM:1 BARRIER STORE NUM:0 NUM:1 STORE NUM:9 NUM:1", 2, 3);
        raced("STORE WORD NUM:3 NUM:1", 2, 1);
        raced("IF THREAD STORE NUM:7 NUM:1 ELSE STORE WORD NUM:7 NUM:1 END", 2, 1);
        raced("IF THREAD STORE NUM:7 NUM:1 ELSE IF WORD NUM:7 END END", 2, 1);
        raced("IF THREAD STORE NUM:7 NUM:1 ELSE ADD WORD NUM:7 NUM:1 END", 2, 1);
        raced("IF THREAD STORE NUM:7 NUM:1 ELSE ADD NUM:7 NUM:1 END", 2, 0);
        raced("IF THREAD STORE NUM:7 NUM:1 ELSE SET:0 COUNTER NUM:7 END", 2, 0);
        raced("ADD NUM:7 COUNTER NUM:7", 32, 0);
        WarpDesk x = loaded("STORE NUM:0 NUM:1");
        x.run(2, 0);
        x.run(1, 0);
        due("races of the latest run alone", x.ran(3), 0);
    }

    private static void stepsOfThreads() {
        WarpDesk x = loaded("SET:0 THREAD WHILE VAR:0 SET:0 - VAR:0 NUM:1 END");
        x.run(32, 0);
        for (int t = 0; t < 32; t++) {
            due("steps " + t, x.steps(t), 2 + 2 * t);
        }
        int[] odd = {-1, 32, 64, MIN, MAX};
        for (int t : odd) {
            due("steps " + t, x.steps(t), 0);
        }
        x.run(2, 0);
        due("steps of the latest run", x.steps(1), 4);
        due("no such thread in it", x.steps(2), 0);
    }

    private static void doneByToken() {
        WarpDesk x = loaded("WHILE < VAR:0 THREAD SET:0 + VAR:0 NUM:1 IF = THREAD NUM:2 BARRIER ELSE ADD NUM:0 NUM:1 END END RETURN");
        x.run(3, 0);
        int[] want = new int[64];
        want[0] = 3 + 1 + 2;
        want[4] = 3;
        want[8] = 3;
        want[12] = 2;
        want[14] = 1;
        want[19] = 3;
        for (int k = 0; k < 64; k++) {
            due("done " + k, x.done(k), want[k]);
        }
        int[] odd = {-1, 64, 65, MIN, MAX};
        for (int k : odd) {
            due("done " + k, x.done(k), 0);
        }
        x.wipe();
        load(x, "NUM:1");
        due("other tokens", x.done(19), 3);
        x.wipe();
        load(x, "BARRIER ".repeat(63) + "RETURN");
        x.run(5, 0);
        due("the last token", x.done(63), 5);
        due("the latest run", x.done(0), 5);
        x.wipe();
        x.run(1, 0);
        due("a run of nothing", x.done(0) + x.done(63), 0);
    }

    private static void allOperandsAreWorkedOut() {
        String store = "IF THREAD STORE NUM:3 NUM:1 ELSE SET:0 ";
        String[] operators = {"AND NUM:0 WORD NUM:3", "OR NUM:1 WORD NUM:3", "SELECT NUM:1 NUM:5 WORD NUM:3",
            "SELECT NUM:0 WORD NUM:3 NUM:5", "* NUM:0 WORD NUM:3", "/ WORD NUM:3 NUM:0", "% WORD NUM:3 NUM:0",
            "AND WORD NUM:3 NUM:0", "SELECT WORD NUM:3 NUM:1 NUM:1", "AND NUM:0 AND NUM:0 WORD NUM:3"};
        for (String operator : operators) {
            raced(store + operator + " END", 2, 1);
        }
        WarpDesk x = loaded("STORE NUM:2 NUM:30 STORE NUM:40 NUM:3 ADD NUM:4 NUM:50");
        x.run(1, 0);
        due("the index is first", x.word(2) * 10 + x.word(40), 303);
        due("the counter's index is first", x.counter(4), 50);
        due("and not second", x.word(30) + x.word(3) + x.counter(50), 0);
    }

    private static void barrierAtTheEnd() {
        WarpDesk x = loaded("BARRIER");
        due("run", x.run(3, 0), WarpDesk.OK);
        due("phases", x.ran(0), 2);
        due("statements", x.ran(1), 3);
        x = loaded("IF THREAD BARRIER END");
        x.run(1, 0);
        due("no one does it", x.ran(0), 1);
        x.run(2, 0);
        due("one does it", x.ran(0), 2);
        x = loaded("BARRIER RETURN");
        x.run(2, 0);
        due("RETURN behind it", x.ran(0), 2);
    }

    private static void theLimitOfSteps() {
        // A loop of two statements and one more WHILE: 1 + 2 * ARG + 1 statements, and then those behind it.
        String loop = "SET:0 ARG WHILE VAR:0 SET:0 - VAR:0 NUM:1 END ";
        limit(loop, 149, 300, WarpDesk.OK, 1);
        limit(loop, 150, 300, WarpDesk.OVER, 1);
        limit(loop + "RETURN", 149, 300, WarpDesk.OVER, 1);
        limit(loop + "RETURN", 148, 299, WarpDesk.OK, 1);
        limit("SET:1 NUM:1 " + loop + "RETURN", 148, 300, WarpDesk.OK, 1);
        limit("SET:1 NUM:1 " + loop + "BARRIER", 148, 300, WarpDesk.OK, 2);
        limit("SET:1 NUM:1 " + loop + "BARRIER SET:1 NUM:1", 148, 300, WarpDesk.OVER, 2);
        limit("SET:1 NUM:1 " + loop + "IF NUM:1 ELSE SET:1 NUM:1 END", 148, 300, WarpDesk.OK, 1);
        limit("SET:1 NUM:1 " + loop + "IF NUM:0 SET:1 NUM:1 END", 148, 300, WarpDesk.OK, 1);
        limit("SET:1 NUM:1 " + loop + "IF NUM:1 BARRIER END", 148, 300, WarpDesk.OVER, 1);
        limit("WHILE NUM:1 BARRIER END", 0, 300, WarpDesk.OVER, 151);
        limit("WHILE NUM:1 " + "BARRIER ".repeat(59) + "END", 0, 300, WarpDesk.OVER, 296);
    }

    private static void whatAnOverlongThreadLeaves() {
        WarpDesk x = loaded("IF THREAD BARRIER SET:0 WORD NUM:1 SET:1 COUNTER NUM:1 BARRIER STORE NUM:2 NUM:8 ELSE "
            + "STORE NUM:1 NUM:5 ADD NUM:1 NUM:6 WHILE NUM:1 SET:2 + VAR:2 NUM:1 END END");
        due("run", x.run(2, 0), WarpDesk.OVER);
        due("its store counts", x.variable(1, 0), 5);
        due("its sum counts", x.variable(1, 1), 6);
        due("the other one goes on", x.word(2), 8);
        due("phases", x.ran(0), 3);
        due("its steps", x.steps(0), 300);
        due("its variable", x.variable(0, 2), 148);
        due("the other one's steps", x.steps(1), 6);
        due("done", x.done(20), 149);
        due("the statement not done", x.done(22), 148);
    }

    private static void limit(String text, int arg, int steps, int answer, int phases) {
        WarpDesk x = loaded(text.trim());
        due("run(2, " + arg + ") of " + text, x.run(2, arg), answer);
        due("steps of " + text, x.steps(0), steps);
        due("all steps of " + text, x.ran(1), 2 * steps);
        due("phases of " + text, x.ran(0), phases);
    }

    private static void raced(String text, int threads, int want) {
        WarpDesk x = loaded(text);
        x.run(threads, 0);
        due("races of " + text + " with " + threads, x.ran(3), want);
    }

    private static void value(String expression, int want) {
        WarpDesk x = loaded("ADD NUM:1 NUM:7 BARRIER SET:4 " + expression);
        x.put(0, 100);
        x.put(36, 136);
        due("run", x.run(1, 0), WarpDesk.OK);
        due(expression, x.variable(0, 4), want);
    }

    private static void fault(String text, int want) {
        WarpDesk x = loaded(text);
        due("wrong of " + text, x.wrong(), want);
        due("wrong again of " + text, x.wrong(), want);
        due("run of " + text, x.run(1, 0) == NONE ? 1 : 0, want == NONE ? 0 : 1);
    }

    private static WarpDesk loaded(String text) {
        WarpDesk x = new WarpDesk();
        load(x, text);
        return x;
    }

    private static void load(WarpDesk x, String text) {
        if (text.isEmpty()) {
            return;
        }
        for (String part : text.split(" ")) {
            String[] pair = part.split(":");
            int value = pair.length > 1 ? Integer.parseInt(pair[1]) : 0;
            if (x.token(KINDS.get(pair[0]), value) == NONE) {
                failures++;
                System.out.println("promise " + promise + ": " + part + " was refused in " + text);
            }
        }
    }

    private static void due(String what, int got, int want) {
        if (got != want) {
            failures++;
            System.out.println("promise " + promise + ": " + what + " answered " + got + ", due is " + want);
        }
    }
}

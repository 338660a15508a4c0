/** A test for each sentence of the document's promises that names a boundary case. */
public final class PromiseSentences {
    private static final int MIN = Integer.MIN_VALUE, MAX = Integer.MAX_VALUE, NONE = WarpDesk.NONE, OK = WarpDesk.OK;
    private static final int[] ODD_SIZES = {0, -1, 33, 34, 64, 65, -32, 256 + 1, 65536 + 1, MIN, MIN + 1, MAX};
    // It leaves something behind in every answer: words, counters, variables, races, phases.
    private static final String BUSY = "SET:0 + THREAD NUM:1 SET:5 + ARG NUM:1 STORE NUM:1 THREAD STORE + THREAD NUM:2 NUM:6 "
        + "ADD NUM:63 NUM:5 IF THREAD BARRIER ELSE SET:1 NUM:3 END ADD THREAD NUM:1";

    public static void main(String[] args) {
        Checks.begin();
        Checks.holds("The public face", "OK = 0, OVER = 1, NONE = -1", PromiseSentences::constants);
        promise(1, "No tokens, all words and counters 0, no run", PromiseSentences::newObject);
        promise(1, "No tokens, all words and counters 0, no run (beside another object)", PromiseSentences::anotherObject);
        promise(2, "Appends a token: how many there are", PromiseSentences::howManyThereAre);
        promise(2, "NONE if there is no such kind", PromiseSentences::noSuchKind);
        promise(2, "NONE if a variable is not 0..5", PromiseSentences::noSuchVariableInToken);
        promise(2, "NONE if there are 64", PromiseSentences::thereAre64);
        promise(2, "and nothing changes", PromiseSentences::refusedTokenChangesNothing);
        promise(3, "Removes all tokens", PromiseSentences::removesAll);
        promise(3, "how many there were", PromiseSentences::howManyThereWere);
        promise(4, "NONE if the tokens are a program (none are one)", PromiseSentences::noneAreOne);
        promise(4, "the number of the first one with which they can't go on so", PromiseSentences::firstFault);
        promise(4, "(17 tokens are no expression)", PromiseSentences::seventeenTokens);
        promise(4, "or how many there are if something is missing at the end", PromiseSentences::missingAtTheEnd);
        promise(5, "A word becomes v: what it was", PromiseSentences::whatItWas);
        promise(6, "All words and counters are 0", PromiseSentences::allZero);
        promise(7, "n threads (1..32)", PromiseSentences::oneTo32Threads);
        promise(7, "OK, or OVER", PromiseSentences::okOrOver);
        promise(7, "NONE, and nothing changes, for another n", PromiseSentences::anotherSize);
        promise(7, "NONE, and nothing changes, if the tokens are no program", PromiseSentences::noProgram);
        promise(8, "A word", PromiseSentences::word);
        promise(9, "A counter", PromiseSentences::counter);
        promise(10, "What variable v of a thread was at the end of the latest run", PromiseSentences::latestVariables);
        promise(10, "0 if there was none", PromiseSentences::variableOfNoRun);
        promise(10, "0 if there was no such thread in it", PromiseSentences::variableOfNoThread);
        promise(10, "0 if there was no such variable", PromiseSentences::noSuchVariable);
        promise(11, "0: how many phases; 1: statements; 2: the most; 3: races; 4: threads", PromiseSentences::ranFive);
        promise(11, "0 if there was none", PromiseSentences::ranOfNoRun);
        promise(11, "0 for others", PromiseSentences::ranOfOthers);
        promise(12, "How many statements a thread did in the latest run", PromiseSentences::latestSteps);
        promise(12, "0 if there was none", PromiseSentences::stepsOfNoRun);
        promise(13, "the statement that begins with token k was done by all threads", PromiseSentences::beginsWithToken);
        promise(13, "(the tokens may be others by now)", PromiseSentences::othersByNow);
        promise(13, "0 if there was none such", PromiseSentences::noneSuch);
        promise(14, "All operands are worked out, also those that do not matter", PromiseSentences::allOperands);
        promise(14, "words that they read count as read by the thread", PromiseSentences::readByTheThread);
        promise(14, "given up at its 17th token, not before", PromiseSentences::givenUpAt17th);
        promise(14, "STORE: the index first, then what is stored", PromiseSentences::indexFirst);
        promise(14, "A thread that does a BARRIER as the last statement is done only in the next phase",
            PromiseSentences::barrierLast);
        promise(14, "A thread that comes to its 301st statement is done there", PromiseSentences::doneAt301st);
        promise(14, "that statement not done", PromiseSentences::statement301NotDone);
        promise(14, "the other threads go on as ever", PromiseSentences::othersGoOn);
        promise(14, "what it stored and added in this phase counts", PromiseSentences::whatItStoredCounts);
        promise(14, "and the run answers OVER when all are done", PromiseSentences::overWhenAllAreDone);
        Checks.holds("What it is", "An object is used for at most 512 calls", PromiseSentences::fiveHundredAndTwelve);
        Checks.end();
    }

    private static void constants() {
        Checks.due("OK", WarpDesk.OK, 0);
        Checks.due("OVER", WarpDesk.OVER, 1);
        Checks.due("NONE", WarpDesk.NONE, -1);
    }

    // ---- promise 1 ----

    private static void newObject() {
        int[] seen = new Desk().all();
        for (int i = 0; i < seen.length; i++) {
            Checks.due("answer " + i + " of all", seen[i], 0);
        }
        Checks.due("wipe", new Desk().wipe(), 0);
        Checks.due("wrong", new Desk().wrong(), NONE);
        Checks.due("the first token", new Desk().token(7, 0), 1);
        Checks.due("put", new Desk().put(0, 1), 0);
    }

    private static void anotherObject() {
        Desk busy = Desk.with(BUSY).after(32, 9);
        int[] seen = new Desk().all();
        for (int i = 0; i < seen.length; i++) {
            Checks.due("answer " + i + " of all beside another object", seen[i], 0);
        }
        Desk other = Desk.with("BARRIER");
        other.put(1, 77);
        other.run(2, 0);
        other.zero();
        Checks.due("the first one's word", busy.word(1), 31);
        Checks.due("the first one's counter", busy.counter(63), 160);
        Checks.due("the first one's threads", busy.ran(4), 32);
        Checks.due("the other one's tokens", other.wipe(), 1);
        Checks.due("the first one's tokens", busy.wipe(), 29);
    }

    // ---- promise 2 ----

    private static void howManyThereAre() {
        Desk x = new Desk();
        for (int i = 1; i <= 64; i++) {
            Checks.due("token " + i, x.token(7, i), i);
        }
        x.wipe();
        Checks.due("after a wipe", x.token(31, 0), 1);
        Checks.due("a token that fits nothing", x.token(5, 0), 2);
        int[] kinds = {0, 1, 2, 3, 4, 5, 6, 7, 8, 10, 11, 12, 13, 14, 15, 16, 20, 21, 22, 23, 24, 25, 26, 27, 28, 29, 30, 31};
        x = new Desk();
        for (int i = 0; i < kinds.length; i++) {
            Checks.due("kind " + kinds[i], x.token(kinds[i], 5), i + 1);
        }
    }

    private static void noSuchKind() {
        int[] odd = {9, 17, 18, 19, 32, 33, 64, 71, 128, 256, 256 + 7, 65536, 65536 + 7, -1, -2, -7, -9, -64, -249, MIN,
            MIN + 7, MAX, MAX - 1};
        Desk x = Desk.with("BARRIER");
        for (int kind : odd) {
            Checks.due("kind " + kind, x.token(kind, 0), NONE);
        }
        Checks.due("the next token", x.token(7, 0), 2);
    }

    private static void noSuchVariableInToken() {
        int[] odd = {-1, -2, -6, 6, 7, 64, 256, 65536, MIN, MAX};
        Desk x = new Desk();
        for (int v : odd) {
            Checks.due("SET " + v, x.token(0, v), NONE);
            Checks.due("VAR " + v, x.token(11, v), NONE);
        }
        for (int v = 0; v <= 5; v++) {
            Checks.due("SET " + v, x.token(0, v), 2 * v + 1);
            Checks.due("VAR " + v, x.token(11, v), 2 * v + 2);
        }
        Checks.due("a NUM is no variable", x.token(10, 6), 13);
    }

    private static void thereAre64() {
        Desk x = Desk.with("BARRIER ".repeat(63));
        Checks.due("token 64", x.token(8, 0), 64);
        for (int kind = -1; kind <= 32; kind++) {
            Checks.due("token 65, of kind " + kind, x.token(kind, 0), NONE);
        }
        Checks.due("tokens", x.wipe(), 64);
        Checks.due("a token after the wipe", x.token(7, 0), 1);
    }

    private static void refusedTokenChangesNothing() {
        Desk touched = Desk.with(BUSY).after(3, 9);
        touched.token(9, 1);
        touched.token(0, 6);
        touched.token(11, -1);
        alike("a refused token", touched, Desk.with(BUSY).after(3, 9));
        touched = Desk.with(BUSY);
        touched.token(32, 0);
        touched.token(0, MAX);
        alike("a token refused before the run", touched.after(3, 9), Desk.with(BUSY).after(3, 9));
        Desk x = Desk.with("SET:0 NUM:1 ".repeat(31) + "SET:5 NUM:8");
        x.token(7, 0);
        x.token(10, 9);
        Checks.due("wrong of a full program after a refusal", x.wrong(), NONE);
        Checks.due("its run", x.run(1, 0), OK);
        Checks.due("its first variable", x.variable(0, 0), 1);
        Checks.due("its last variable", x.variable(0, 5), 8);
        Checks.due("its statements", x.ran(1), 32);
        Checks.due("its tokens", x.wipe(), 64);
    }

    // ---- promise 3 ----

    private static void removesAll() {
        Desk x = Desk.with("SET:0 NUM:1 IF NUM:1");
        x.wipe();
        Checks.due("no tokens are a program", x.wrong(), NONE);
        Checks.due("run of none", x.run(2, 0), OK);
        Checks.due("statements of none", x.ran(1), 0);
        x.load("IF NUM:1");
        Checks.due("what was removed does not help", x.wrong(), 2);
        x.wipe();
        x.load("BARRIER");
        Checks.due("run of one", x.run(1, 0), OK);
        Checks.due("steps of one", x.steps(0), 1);
        Desk wiped = Desk.with(BUSY).after(3, 9);
        wiped.wipe();
        alike("wipe, for all but the tokens", wiped, Desk.with(BUSY).after(3, 9));
    }

    private static void howManyThereWere() {
        Desk x = new Desk();
        Checks.due("wipe of none", x.wipe(), 0);
        Checks.due("wipe of none again", x.wipe(), 0);
        x.load("END");
        Checks.due("wipe of one", x.wipe(), 1);
        Checks.due("wipe behind it", x.wipe(), 0);
        x.load("SET:0 SET:0 SET:0");
        x.token(9, 0);
        Checks.due("wipe of three and a refused one", x.wipe(), 3);
        x.load("BARRIER ".repeat(64));
        x.token(7, 0);
        Checks.due("wipe of 64", x.wipe(), 64);
        Checks.due("wipe behind them", x.wipe(), 0);
    }

    // ---- promise 4 ----

    private static void noneAreOne() {
        Desk x = new Desk();
        Checks.due("wrong of none", x.wrong(), NONE);
        Checks.due("run of none", x.run(1, 0), OK);
        Checks.due("phases of none", x.ran(0), 1);
        Checks.due("statements of none", x.ran(1), 0);
        Checks.due("most of none", x.ran(2), 0);
        x.load("END");
        Checks.due("wrong of END", x.wrong(), 0);
        x.wipe();
        Checks.due("none after a wipe", x.wrong(), NONE);
        fault("SET:0 NUM:1", NONE);
        fault("STORE NUM:1 NUM:2", NONE);
        fault("ADD NUM:1 NUM:2", NONE);
        fault("BARRIER", NONE);
        fault("RETURN", NONE);
        fault("RETURN BARRIER SET:5 THREAD RETURN", NONE);
        fault("IF ARG WHILE NUM:0 IF SIZE BARRIER ELSE RETURN END END ELSE IF THREAD END END RETURN", NONE);
        fault("SET:0 WORD COUNTER NEG NOT SELECT + NUM:1 NUM:1 VAR:0 ARG", NONE);
    }

    private static void firstFault() {
        String[] leaves = {"NUM:1", "VAR:0", "THREAD", "SIZE", "ARG"};
        String[] unary = {"WORD", "COUNTER", "NOT", "NEG"};
        String[] binary = {"+", "-", "*", "/", "%", "=", "<", "AND", "OR"};
        String[] notInExpression = {"SET:0", "STORE", "ADD", "IF", "ELSE", "END", "WHILE", "BARRIER", "RETURN"};
        for (String leaf : leaves) {
            expressionFaults(leaf, 0);
        }
        for (String operator : unary) {
            expressionFaults(operator, 1);
        }
        for (String operator : binary) {
            expressionFaults(operator, 2);
        }
        expressionFaults("SELECT", 3);
        for (String token : notInExpression) {
            fault("SET:0 " + token, 1);
            fault("STORE " + token + " NUM:1", 1);
            fault("STORE NUM:1 " + token, 2);
            fault("ADD NUM:1 " + token, 2);
            fault("IF " + token + " END", 1);
            fault("WHILE " + token + " END", 1);
            fault("BARRIER SET:0 SELECT NUM:1 + NUM:1 " + token, 6);
        }
        fault("ELSE", 0);
        fault("END", 0);
        fault("BARRIER END BARRIER", 1);
        fault("IF NUM:1 END END", 3);
        fault("IF NUM:1 END ELSE", 3);
        fault("IF NUM:1 ELSE ELSE END", 3);
        fault("WHILE NUM:1 ELSE END", 2);
        fault("WHILE NUM:1 IF NUM:1 ELSE END ELSE END", 6);
        fault("IF NUM:1 ELSE IF NUM:1 ELSE END ELSE END", 7);
        fault("BARRIER ".repeat(63) + "END", 63);
        fault("BARRIER ".repeat(63) + "NUM:1", 63);
        fault("END NUM:1 ELSE", 0);
        fault("SET:0 NUM:1 NUM:2 END IF", 2);
    }

    private static void expressionFaults(String operator, int operands) {
        String whole = operator + " NUM:1".repeat(operands);
        fault(whole, 0);
        fault("SET:0 " + whole, NONE);
        fault("SET:0 " + whole + " NUM:2", operands + 2);
        fault("SET:0 " + whole + " BARRIER", NONE);
        fault("STORE " + whole + " " + whole, NONE);
        fault("STORE " + whole + " BARRIER", operands + 2);
        fault("STORE " + whole + " NUM:1 " + whole, operands + 3);
        fault("ADD " + whole + " " + whole + " NUM:3", 2 * operands + 3);
        fault("IF " + whole + " NUM:1 END", operands + 2);
        fault("WHILE " + whole + " END", NONE);
        fault("BARRIER " + operator, 1);
        for (int given = 0; given < operands; given++) {
            fault("SET:0 " + operator + " NUM:1".repeat(given), given + 2);
            fault("SET:0 " + operator + " NUM:1".repeat(given) + " SET:0 NUM:1", given + 2);
        }
    }

    private static void seventeenTokens() {
        fault("SET:0 " + "NEG ".repeat(15) + "NUM:1", NONE);
        fault("SET:0 " + "NEG ".repeat(16) + "NUM:1", 17);
        fault("SET:0 " + "NEG ".repeat(17) + "NUM:1", 17);
        fault("SET:0 NEG " + "+ NUM:1 ".repeat(7) + "NUM:1", NONE);
        fault("SET:0 " + "+ NUM:1 ".repeat(8) + "NUM:1", 17);
        fault("SET:0 " + "+ ".repeat(8) + "NUM:1 ".repeat(9), 17);
        fault("SET:0 " + "SELECT NUM:1 NUM:2 ".repeat(5) + "NUM:3", NONE);
        fault("SET:0 " + "SELECT NUM:1 NUM:2 ".repeat(5) + "NEG NUM:3", 17);
        String sixteen = "NOT " + "+ NUM:1 ".repeat(7) + "NUM:1 ";
        fault("STORE " + sixteen + sixteen, NONE);
        fault("STORE " + sixteen + "NOT " + sixteen, 33);
        fault("STORE NOT " + sixteen + sixteen, 17);
        fault("ADD " + sixteen + "NOT " + sixteen, 33);
        fault("ADD NOT " + sixteen + sixteen, 17);
        fault("IF " + sixteen + "WHILE " + sixteen + "ADD " + sixteen + "NUM:1 END END", NONE);
        fault("IF NOT " + sixteen + "END", 17);
        fault("WHILE NOT " + sixteen + "END", 17);
        fault("SET:0 " + sixteen + "SET:0 " + sixteen + "SET:0 " + sixteen, NONE);
        fault("STORE NUM:1 " + sixteen + "BARRIER WHILE NOT " + sixteen, 36);
    }

    private static void missingAtTheEnd() {
        fault("SET:0", 1);
        fault("SET:0 +", 2);
        fault("SET:0 + NUM:1", 3);
        fault("SET:0 SELECT NUM:1 NUM:1", 4);
        fault("STORE", 1);
        fault("STORE NUM:1", 2);
        fault("STORE NUM:1 -", 3);
        fault("ADD", 1);
        fault("ADD NUM:1", 2);
        fault("IF", 1);
        fault("IF NUM:1", 2);
        fault("IF NUM:1 BARRIER", 3);
        fault("IF NUM:1 ELSE", 3);
        fault("IF NUM:1 ELSE BARRIER", 4);
        fault("WHILE", 1);
        fault("WHILE NUM:1", 2);
        fault("WHILE NUM:1 IF NUM:1 END", 5);
        fault("IF NUM:1 IF NUM:1 ELSE END", 6);
        fault("SET:0 " + "NEG ".repeat(15), 16);
        fault("SET:0 " + "NEG ".repeat(16), 17);
        fault("IF NUM:1 ".repeat(32), 64);
        fault("WHILE NUM:0 ".repeat(22) + "END ".repeat(20), 64);
        fault("BARRIER ".repeat(63) + "STORE", 64);
        fault("BARRIER ".repeat(62) + "IF NUM:1", 64);
        Desk x = Desk.with("STORE");
        Checks.due("one missing, then two", x.wrong(), 1);
        x.load("NUM:1");
        Checks.due("one of two", x.wrong(), 2);
        x.load("NUM:1");
        Checks.due("none missing", x.wrong(), NONE);
        x.load("IF NUM:1");
        Checks.due("an END missing", x.wrong(), 5);
        x.load("END");
        Checks.due("no END missing", x.wrong(), NONE);
    }

    private static void fault(String text, int want) {
        Desk x = Desk.with(text);
        Checks.due("wrong of " + text, x.wrong(), want);
        Checks.due("wrong again of " + text, x.wrong(), want);
        Checks.due("threads of " + text, x.after(1, 0).ran(4), want == NONE ? 1 : 0);
    }

    // ---- promises 5 and 6 ----

    private static void whatItWas() {
        Desk x = new Desk();
        int[] row = {MIN, 0, -1, 7, 7, MAX, 0};
        int before = 0;
        for (int v : row) {
            Checks.due("put of " + v, x.put(9, v), before);
            Checks.due("word after put of " + v, x.word(9), v);
            before = v;
        }
        for (int i = 0; i < 64; i++) {
            Checks.due("put at " + i, x.put(i, i + 1), 0);
        }
        for (int i = 0; i < 64; i++) {
            Checks.due("put at " + (i - 64), x.put(i - 64, 0), i + 1);
            Checks.due("counter " + i, x.counter(i), 0);
        }
        Desk touched = Desk.with(BUSY).after(3, 9);
        touched.put(1, 50);
        touched.put(1, 2);
        alike("put, for all but its word", touched, Desk.with(BUSY).after(3, 9));
    }

    private static void allZero() {
        Desk x = Desk.with("STORE THREAD NUM:4 STORE + THREAD SIZE NUM:4 ADD THREAD NUM:5 ADD + THREAD SIZE NUM:5 SET:1 NUM:6");
        x.run(32, 0);
        Checks.due("before", x.word(63) + x.counter(63) + x.word(0) + x.counter(0), 18);
        x.zero();
        for (int i = 0; i < 64; i++) {
            Checks.due("word " + i, x.word(i), 0);
            Checks.due("counter " + i, x.counter(i), 0);
        }
        Checks.due("variables stay", x.variable(31, 1), 6);
        Checks.due("steps stay", x.steps(31), 5);
        Checks.due("the run stays", x.ran(0) * 1000 + x.ran(1), 1160);
        Checks.due("its threads stay", x.ran(4), 32);
        Checks.due("done stays", x.done(0), 32);
        Checks.due("tokens stay", x.wrong(), NONE);
        Checks.due("tokens are as many", x.wipe(), 18);
        x = new Desk();
        x.zero();
        x.put(63, -1);
        x.zero();
        Checks.due("zero of one word", x.word(63), 0);
        Checks.due("zero is no run", x.ran(4), 0);
        x = Desk.with("ADD NUM:1 NUM:1 STORE NUM:1 + WORD NUM:1 NUM:1").after(2, 0);
        x.zero();
        x.run(2, 0);
        Checks.due("counters begin again", x.counter(1), 2);
        Checks.due("words begin again", x.word(1), 1);
    }

    // ---- promise 7 ----

    private static void oneTo32Threads() {
        for (int n = 1; n <= 32; n++) {
            Desk x = Desk.with("ADD NUM:0 NUM:1 STORE THREAD NUM:1");
            Checks.due("run with " + n, x.run(n, 0), OK);
            Checks.due("how many added", x.counter(0), n);
            Checks.due("the last one stored", x.word(n - 1), 1);
            Checks.due("no one behind it", x.word(n), 0);
            Checks.due("threads", x.ran(4), n);
        }
    }

    private static void okOrOver() {
        Desk x = Desk.with("WHILE < VAR:0 ARG SET:0 + VAR:0 NUM:1 END");
        int[] args = {MIN, -1, 0, 1, 149, 150, 151, MAX};
        int[] answers = {OK, OK, OK, OK, OK, WarpDesk.OVER, WarpDesk.OVER, WarpDesk.OVER};
        for (int i = 0; i < args.length; i++) {
            Checks.due("run with ARG " + args[i], x.run(1, args[i]), answers[i]);
            Checks.due("run with 32 and ARG " + args[i], x.run(32, args[i]), answers[i]);
        }
        Checks.due("OK after OVER", x.run(2, 0), OK);
        Checks.due("words stay for the next run", Desk.with("STORE NUM:1 + WORD NUM:1 NUM:1").after(2, 0).after(2, 0).word(1), 2);
    }

    private static void anotherSize() {
        for (int n : ODD_SIZES) {
            Desk touched = Desk.with(BUSY).after(3, 9);
            Checks.due("run with " + n, touched.run(n, 4), NONE);
            alike("a run with " + n, touched, Desk.with(BUSY).after(3, 9));
            touched = Desk.with(BUSY);
            touched.run(n, 4);
            alike("a first run with " + n, touched, Desk.with(BUSY));
            Desk x = new Desk();
            Checks.due("run of none with " + n, x.run(n, 0), NONE);
            Checks.due("no run", x.ran(0), 0);
        }
    }

    private static void noProgram() {
        String[] texts = {"SET:0", "END", "IF NUM:1", "STORE NUM:1 NUM:2 NUM:3", "STORE NUM:1 NUM:2 WHILE NUM:1 ELSE END",
            "SET:0 " + "NEG ".repeat(16) + "NUM:1", "SET:0 NUM:9 ADD NUM:1 NUM:1 BARRIER ELSE"};
        for (String text : texts) {
            Desk touched = Desk.with(BUSY).after(3, 9);
            touched.wipe();
            touched.load(text);
            Checks.due("run of " + text, touched.run(1, 4), NONE);
            Checks.due("run of 0 of " + text, touched.run(0, 4), NONE);
            alike("a run of " + text, touched, Desk.with(BUSY).after(3, 9));
            Desk x = Desk.with(text).after(2, 0);
            Checks.due("no run", x.ran(4), 0);
            Checks.due("the tokens stay", x.wipe(), text.split(" ").length);
        }
        Desk x = Desk.with("IF THREAD SET:0 NUM:4");
        Checks.due("run before the END", x.run(2, 0), NONE);
        x.load("END");
        Checks.due("run with the END", x.run(2, 0), OK);
        Checks.due("its variable", x.variable(1, 0), 4);
        x = Desk.with("SET:0 NUM:3").after(2, 0);
        x.load("END");
        Checks.due("run with an END too many", x.run(4, 0), NONE);
        Checks.due("threads of the run before", x.ran(4), 2);
        Checks.due("done of the run before", x.done(0), 2);
    }

    private static void alike(String what, Desk touched, Desk untouched) {
        int[] got = touched.all();
        int[] want = untouched.all();
        for (int i = 0; i < want.length; i++) {
            Checks.due("answer " + i + " of all after " + what, got[i], want[i]);
        }
    }

    // ---- promises 8 and 9 ----

    private static void word() {
        Desk x = Desk.with("STORE NUM:0 NUM:-5 STORE NUM:63 NUM:5").after(1, 0);
        Checks.due("the first one", x.word(0), -5);
        Checks.due("the last one", x.word(63), 5);
        Checks.due("64 is the first one", x.word(64), -5);
        Checks.due("-1 is the last one", x.word(-1), 5);
        Checks.due("MIN is the first one", x.word(MIN), -5);
        Checks.due("MAX is the last one", x.word(MAX), 5);
        Checks.due("their neighbours", x.word(1) + x.word(62), 0);
        Checks.due("a look changes nothing", x.word(0), -5);
    }

    private static void counter() {
        Desk x = Desk.with("ADD NUM:0 NUM:-5 ADD NUM:63 NUM:5").after(1, 0);
        Checks.due("the first one", x.counter(0), -5);
        Checks.due("the last one", x.counter(63), 5);
        Checks.due("64 is the first one", x.counter(64), -5);
        Checks.due("-1 is the last one", x.counter(-1), 5);
        Checks.due("MIN is the first one", x.counter(MIN), -5);
        Checks.due("MAX is the last one", x.counter(MAX), 5);
        Checks.due("their neighbours", x.counter(1) + x.counter(62), 0);
        Checks.due("a look changes nothing", x.counter(0), -5);
    }

    // ---- promise 10 ----

    private static final String SIX = "SET:0 NUM:10 SET:1 NUM:11 SET:2 NUM:12 SET:3 NUM:13 SET:4 NUM:14 SET:5 + NUM:15 THREAD";

    private static void latestVariables() {
        Desk x = Desk.with(SIX).after(32, 0);
        for (int thread = 0; thread < 32; thread++) {
            for (int v = 0; v < 6; v++) {
                Checks.due("variable " + v + " of " + thread, x.variable(thread, v), v + 10 + (v == 5 ? thread : 0));
            }
        }
        x = Desk.with("SET:0 NUM:1 BARRIER SET:0 NUM:2 WHILE THREAD END SET:0 NUM:3").after(2, 0);
        Checks.due("at the end", x.variable(0, 0), 3);
        Checks.due("at the end of one that is over", x.variable(1, 0), 2);
        x.wipe();
        x.run(2, 0);
        Checks.due("of the latest run", x.variable(0, 0), 0);
        x.load("SET:0 NUM:1");
        Checks.due("not of the tokens", x.variable(0, 0), 0);
    }

    private static void variableOfNoRun() {
        Desk x = Desk.with(SIX);
        x.run(33, 0);
        for (int thread = -1; thread <= 32; thread++) {
            for (int v = -1; v <= 6; v++) {
                Checks.due("variable " + v + " of " + thread, x.variable(thread, v), 0);
            }
        }
    }

    private static void variableOfNoThread() {
        int[] odd = {-1, -2, -32, 32, 33, 64, 65536, MIN, MIN + 1, MAX};
        Desk x = Desk.with(SIX).after(32, 0);
        for (int thread : odd) {
            for (int v = -1; v <= 6; v++) {
                Checks.due("variable " + v + " of " + thread, x.variable(thread, v), 0);
            }
        }
        for (int n = 1; n < 32; n += 5) {
            x.run(n, 0);
            Checks.due("the last one of " + n, x.variable(n - 1, 5), 14 + n);
            for (int thread = n; thread <= 32; thread++) {
                Checks.due("variable of " + thread + " of " + n, x.variable(thread, 0), 0);
            }
        }
    }

    private static void noSuchVariable() {
        int[] odd = {-1, -2, -6, 6, 7, 12, 64, MIN, MIN + 1, MAX};
        Desk x = Desk.with(SIX).after(32, 0);
        int[] threads = {0, 1, 15, 30, 31};
        for (int thread : threads) {
            for (int v : odd) {
                Checks.due("variable " + v + " of " + thread, x.variable(thread, v), 0);
            }
        }
    }

    // ---- promises 11 and 12 ----

    private static void ranFive() {
        Desk x = Desk.with("SET:0 THREAD WHILE VAR:0 SET:0 - VAR:0 NUM:1 BARRIER END STORE NUM:0 NUM:0");
        x.run(4, 0);
        ran(x, 4, 4 * 3 + 3 * (1 + 2 + 3), 12, 0, 4);
        x.run(1, 0);
        ran(x, 1, 3, 3, 0, 1);
        x.run(32, 0);
        ran(x, 32, 32 * 3 + 3 * 496, 3 + 3 * 31, 0, 32);
        x.wipe();
        x.run(7, 0);
        ran(x, 1, 0, 0, 0, 7);
        x.load("STORE NUM:0 NUM:0 STORE NUM:1 NUM:0 BARRIER STORE NUM:1 NUM:0 IF = THREAD NUM:1 SET:0 NUM:1 END");
        x.run(3, 0);
        ran(x, 2, 3 * 5 + 1, 6, 3, 3);
        Desk all = Desk.with("WHILE NUM:1 END").after(32, 0);
        ran(all, 1, 32 * 300, 300, 0, 32);
    }

    private static void ran(Desk x, int phases, int statements, int most, int races, int threads) {
        Checks.due("phases", x.ran(0), phases);
        Checks.due("statements", x.ran(1), statements);
        Checks.due("the most by one", x.ran(2), most);
        Checks.due("races", x.ran(3), races);
        Checks.due("threads", x.ran(4), threads);
    }

    private static void ranOfNoRun() {
        Desk x = Desk.with(BUSY);
        x.run(0, 0);
        x.put(1, 1);
        for (int what = -1; what <= 5; what++) {
            Checks.due("ran " + what, x.ran(what), 0);
        }
    }

    private static void ranOfOthers() {
        int[] odd = {-1, -2, -4, 5, 6, 7, 8, 64, 256, 65536, MIN, MIN + 1, MAX};
        Desk x = Desk.with(BUSY).after(5, 3);
        for (int what : odd) {
            Checks.due("ran " + what, x.ran(what), 0);
        }
    }

    private static void latestSteps() {
        Desk x = Desk.with("SET:0 THREAD WHILE VAR:0 SET:0 - VAR:0 NUM:1 END").after(32, 0);
        for (int thread = 0; thread < 32; thread++) {
            Checks.due("steps " + thread, x.steps(thread), 2 + 2 * thread);
        }
        int[] odd = {-1, 32, 33, 64, MIN, MAX};
        for (int thread : odd) {
            Checks.due("steps " + thread, x.steps(thread), 0);
        }
        x.run(2, 0);
        Checks.due("of the latest run", x.steps(1), 4);
        Checks.due("of one that it did not have", x.steps(2) + x.steps(31), 0);
        x.wipe();
        x.run(2, 0);
        Checks.due("of a run of none", x.steps(0) + x.steps(1), 0);
    }

    private static void stepsOfNoRun() {
        Desk x = Desk.with(BUSY);
        x.run(-1, 0);
        for (int thread = -1; thread <= 32; thread++) {
            Checks.due("steps " + thread, x.steps(thread), 0);
        }
    }

    // ---- promise 13 ----

    private static final String LOOP = "WHILE < VAR:0 THREAD SET:0 + VAR:0 NUM:1 "
        + "IF = THREAD NUM:2 BARRIER ELSE ADD NUM:0 NUM:1 END END RETURN";
    private static final int[][] LOOP_DONE = {{0, 6}, {4, 3}, {8, 3}, {12, 2}, {14, 1}, {19, 3}};

    private static void beginsWithToken() {
        doneAsLooped(Desk.with(LOOP).after(3, 0));
        Desk x = Desk.with("BARRIER ".repeat(63) + "RETURN").after(32, 0);
        for (int k = 0; k < 64; k++) {
            Checks.due("done " + k + " of 64", x.done(k), 32);
        }
        x = Desk.with("WHILE NUM:1 END").after(32, 0);
        Checks.due("300 by each of 32", x.done(0), 32 * 300);
    }

    private static void othersByNow() {
        Desk x = Desk.with(LOOP).after(3, 0);
        x.wipe();
        doneAsLooped(x);
        x.load("NUM:1 NUM:1");
        doneAsLooped(x);
        x = Desk.with(LOOP).after(3, 0);
        x.load("SET:0 END");
        x.wrong();
        x.run(3, 0);
        doneAsLooped(x);
        x = Desk.with(LOOP).after(3, 0);
        x.wipe();
        x.load("BARRIER BARRIER").after(2, 0);
        Checks.due("those of the latest run", x.done(0) * 10 + x.done(1), 22);
        Checks.due("not those before", x.done(4) + x.done(19), 0);
        x = Desk.with("BARRIER ".repeat(63) + "RETURN").after(32, 0);
        x.wipe();
        x.load("SET:0 NUM:1").after(1, 0);
        for (int k = 0; k < 64; k++) {
            Checks.due("done " + k + " of a shorter program", x.done(k), k == 0 ? 1 : 0);
        }
    }

    private static void doneAsLooped(Desk x) {
        int[] want = new int[64];
        for (int[] pair : LOOP_DONE) {
            want[pair[0]] = pair[1];
        }
        for (int k = 0; k < 64; k++) {
            Checks.due("done " + k, x.done(k), want[k]);
        }
    }

    private static void noneSuch() {
        int[] odd = {-1, -2, -64, 64, 65, 127, 128, 65536, MIN, MIN + 1, MAX};
        Desk x = Desk.with("BARRIER ".repeat(63) + "RETURN");
        for (int k = -1; k <= 64; k++) {
            Checks.due("done " + k + " before a run", x.done(k), 0);
        }
        x.run(5, 0);
        for (int k : odd) {
            Checks.due("done " + k, x.done(k), 0);
        }
        x = Desk.with("IF NUM:0 SET:0 NUM:1 ELSE RETURN SET:1 + NUM:1 NUM:2 END BARRIER").after(2, 0);
        Checks.due("IF", x.done(0), 2);
        Checks.due("an operand", x.done(1), 0);
        Checks.due("a row not gone", x.done(2), 0);
        Checks.due("ELSE", x.done(4), 0);
        Checks.due("RETURN", x.done(5), 2);
        for (int k = 6; k < 64; k++) {
            Checks.due("done " + k + " behind RETURN", x.done(k), 0);
        }
        x = new Desk().after(4, 0);
        Checks.due("done of a run of none", x.done(0), 0);
    }

    // ---- promise 14 ----

    private static void allOperands() {
        String[] operands = {"AND NUM:0 WORD NUM:3", "AND WORD NUM:3 NUM:0", "AND NUM:1 WORD NUM:3", "OR NUM:1 WORD NUM:3",
            "OR WORD NUM:3 NUM:1", "OR NUM:0 WORD NUM:3", "SELECT NUM:1 NUM:5 WORD NUM:3", "SELECT NUM:0 WORD NUM:3 NUM:5",
            "SELECT NUM:1 WORD NUM:3 NUM:5", "SELECT NUM:0 NUM:5 WORD NUM:3", "SELECT WORD NUM:3 NUM:1 NUM:1",
            "* NUM:0 WORD NUM:3", "* WORD NUM:3 NUM:0", "/ WORD NUM:3 NUM:0", "% WORD NUM:3 NUM:0", "/ NUM:0 WORD NUM:3",
            "% NUM:0 WORD NUM:3", "= WORD NUM:3 WORD NUM:3", "AND NUM:0 AND NUM:0 WORD NUM:3",
            "OR NUM:1 SELECT NUM:1 NUM:1 * NUM:0 WORD NUM:3", "AND NUM:0 WORD WORD NUM:4"};
        for (String operand : operands) {
            for (int storer = 0; storer <= 1; storer++) {
                Desk x = Desk.with("IF = THREAD ARG STORE NUM:3 NUM:1 ELSE SET:0 " + operand + " END");
                x.put(4, 3);
                x.run(2, storer);
                Checks.due("races with " + operand, x.ran(3), 1);
            }
        }
        Desk x = Desk.with("SET:0 AND NUM:0 / NUM:1 NUM:0 SET:1 OR NUM:1 % NUM:1 NUM:0 SET:2 SELECT NUM:1 NUM:5 / NUM:1 NUM:0");
        Checks.due("operands without a value that matters", x.run(1, 0), OK);
        Checks.due("the results", x.variable(0, 0) * 100 + x.variable(0, 1) * 10 + x.variable(0, 2), 15);
    }

    private static void readByTheThread() {
        String[] readers = {"SET:0 OR NUM:1 WORD NUM:3", "STORE OR NUM:1 WORD NUM:3 NUM:0", "STORE NUM:9 AND NUM:0 WORD NUM:3",
            "ADD SELECT NUM:1 NUM:1 WORD NUM:3 NUM:0", "ADD NUM:9 OR NUM:1 WORD NUM:3", "IF OR NUM:1 WORD NUM:3 END",
            "WHILE AND NUM:0 WORD NUM:3 END"};
        for (String reader : readers) {
            String both = "IF THREAD " + reader + " ELSE STORE NUM:3 NUM:1 END";
            Checks.due("races of " + both, Desk.with(both).after(2, 0).ran(3), 1);
            String alone = "IF THREAD " + reader + " STORE NUM:3 NUM:1 END";
            Checks.due("races of " + alone, Desk.with(alone).after(2, 0).ran(3), 0);
            String apart = "IF THREAD " + reader + " BARRIER ELSE BARRIER STORE NUM:3 NUM:1 END";
            Checks.due("races of " + apart, Desk.with(apart).after(2, 0).ran(3), 0);
        }
    }

    private static void givenUpAt17th() {
        String[] hopeless = {"SELECT ", "+ ", "OR ", "NEG ", "WORD "};
        for (String operator : hopeless) {
            for (int length = 1; length <= 16; length++) {
                fault("SET:0 " + operator.repeat(length), length + 1);
                fault("SET:0 " + operator.repeat(length) + "BARRIER", length + 1);
                fault("STORE NUM:1 " + operator.repeat(length), length + 2);
                fault("STORE NUM:1 " + operator.repeat(length) + "END", length + 2);
            }
            for (int length = 17; length <= 40; length++) {
                fault("SET:0 " + operator.repeat(length), 17);
                fault("IF " + operator.repeat(length), 17);
                fault("STORE NUM:1 " + operator.repeat(length), 18);
            }
        }
        fault("SET:0 " + "SELECT ".repeat(6) + "NUM:1 ".repeat(10), 17);
        fault("SET:0 " + "SELECT ".repeat(6) + "NUM:1 ".repeat(11), 17);
        fault("SET:0 " + "SELECT ".repeat(6) + "NUM:1 ".repeat(13), 17);
        fault("SET:0 " + "SELECT ".repeat(6) + "NUM:1 ".repeat(9) + "RETURN", 16);
        fault("SET:0 " + "+ ".repeat(15) + "NUM:1 NUM:1", 17);
        fault("SET:0 " + "+ ".repeat(15) + "NUM:1 BARRIER", 17);
    }

    private static void indexFirst() {
        Desk x = Desk.with("STORE NUM:2 NUM:30 STORE NUM:40 NUM:3 STORE + THREAD NUM:10 - NUM:50 THREAD").after(2, 0);
        Checks.due("word 2", x.word(2), 30);
        Checks.due("word 40", x.word(40), 3);
        Checks.due("words 10 and 11", x.word(10) * 100 + x.word(11), 5049);
        Checks.due("words by what is stored", x.word(30) + x.word(3) + x.word(49) + x.word(50), 0);
    }

    private static void barrierLast() {
        phased("BARRIER", 1, 2, 1);
        phased("BARRIER", 32, 2, 32);
        phased("SET:0 NUM:1 BARRIER", 3, 2, 6);
        phased("BARRIER BARRIER", 1, 3, 2);
        phased("IF THREAD BARRIER END", 1, 1, 1);
        phased("IF THREAD BARRIER END", 2, 2, 3);
        phased("IF = THREAD NUM:0 BARRIER END", 2, 2, 3);
        phased("IF THREAD ELSE BARRIER END", 2, 2, 3);
        phased("IF NUM:1 BARRIER ELSE RETURN END", 1, 2, 2);
        phased("WHILE NOT VAR:0 SET:0 NUM:1 BARRIER END", 1, 2, 4);
        phased("BARRIER RETURN", 2, 2, 4);
        phased("RETURN BARRIER", 2, 1, 2);
        phased("IF THREAD RETURN END BARRIER", 2, 2, 4);
        Desk x = Desk.with("STORE NUM:1 NUM:5 ADD NUM:1 NUM:6 BARRIER").after(1, 0);
        Checks.due("the phase before it is settled", x.word(1) * 10 + x.counter(1), 56);
        x = Desk.with("STORE NUM:1 NUM:5 ADD NUM:1 NUM:6 BARRIER").after(2, 0);
        Checks.due("its race counts once", x.ran(3), 1);
        Checks.due("its sum counts once", x.counter(1), 12);
    }

    private static void phased(String text, int n, int phases, int statements) {
        Desk x = Desk.with(text);
        Checks.due("run of " + text, x.run(n, 0), OK);
        Checks.due("phases of " + text + " with " + n, x.ran(0), phases);
        Checks.due("statements of " + text + " with " + n, x.ran(1), statements);
    }

    // With ARG 148, 299 statements: one more is done, and one behind it is not.
    private static final String LONG = "SET:1 NUM:1 SET:0 ARG WHILE VAR:0 SET:0 - VAR:0 NUM:1 END ";

    private static void doneAt301st() {
        over("BARRIER BARRIER", 300, 2);
        over("SET:2 NUM:1 SET:3 NUM:1", 300, 1);
        over("SET:2 NUM:1 RETURN", 300, 1);
        over("SET:2 NUM:1 BARRIER", 300, 1);
        over("IF NUM:1 BARRIER END", 300, 1);
        over("IF NUM:0 ELSE RETURN END", 300, 1);
        over("WHILE NUM:1 END", 300, 1);
        over("BARRIER WHILE NUM:1 END", 300, 2);
        Desk x = Desk.with("WHILE NUM:1 BARRIER END");
        Checks.due("over after many phases", x.run(2, 0), WarpDesk.OVER);
        Checks.due("many phases", x.ran(0), 151);
        x = Desk.with("WHILE NUM:1 " + "BARRIER ".repeat(59) + "END");
        Checks.due("over after the most phases", x.run(2, 0), WarpDesk.OVER);
        Checks.due("the most phases", x.ran(0), 296);
        x = Desk.with(LONG + "BARRIER");
        Checks.due("a BARRIER as the 300th and last one", x.run(1, 148), OK);
        Checks.due("its phases", x.ran(0), 2);
        x = Desk.with(LONG + "RETURN");
        Checks.due("a RETURN as the 300th", x.run(1, 148), OK);
        x = Desk.with(LONG + "IF NUM:1 ELSE BARRIER END");
        Checks.due("an ELSE behind the 300th", x.run(1, 148), OK);
        Checks.due("its steps", x.steps(0), 300);
    }

    private static void over(String behind, int steps, int phases) {
        Desk x = Desk.with(LONG + behind);
        Checks.due("run of " + behind, x.run(1, 148), WarpDesk.OVER);
        Checks.due("steps of " + behind, x.steps(0), steps);
        Checks.due("phases of " + behind, x.ran(0), phases);
        Checks.due("statements of " + behind, x.ran(1), steps);
        Checks.due("the first one of " + behind, x.done(11), 1);
    }

    private static void statement301NotDone() {
        String[] last = {"SET:3 NUM:7", "STORE NUM:1 NUM:7", "ADD NUM:1 NUM:7", "IF NUM:1 SET:3 NUM:7 END",
            "WHILE NUM:1 SET:3 NUM:7 END", "BARRIER", "RETURN"};
        for (String statement : last) {
            Desk x = Desk.with(LONG + "SET:2 NUM:8 " + statement).after(1, 148);
            Checks.due("the 300th before " + statement, x.variable(0, 2), 8);
            Checks.due("done of " + statement, x.done(13), 0);
            Checks.due("what " + statement + " leaves", x.variable(0, 3) + x.word(1) + x.counter(1), 0);
            Checks.due("phases before " + statement, x.ran(0), 1);
        }
        Desk x = Desk.with("IF THREAD STORE NUM:1 NUM:2 RETURN END SET:1 NUM:1 SET:0 ARG WHILE VAR:0 SET:0 - VAR:0 NUM:1 END "
            + "SET:2 WORD NUM:1");
        x.run(2, 148);
        Checks.due("a word that the 301st would read", x.ran(3), 0);
        x.run(2, 147);
        Checks.due("a word that the 299th reads", x.ran(3), 1);
    }

    private static void othersGoOn() {
        for (int one = 0; one < 4; one++) {
            Desk x = Desk.with("IF = THREAD ARG WHILE NUM:1 END END BARRIER ADD NUM:2 NUM:1 BARRIER STORE THREAD COUNTER NUM:2");
            Checks.due("run", x.run(4, one), WarpDesk.OVER);
            for (int thread = 0; thread < 4; thread++) {
                Checks.due("steps of " + thread, x.steps(thread), thread == one ? 300 : 5);
                Checks.due("word of " + thread, x.word(thread), thread == one ? 0 : 3);
            }
            Checks.due("phases", x.ran(0), 3);
            Checks.due("statements", x.ran(1), 300 + 3 * 5);
            Checks.due("the most", x.ran(2), 300);
        }
        Desk x = Desk.with("SET:0 * THREAD NUM:100 WHILE VAR:0 SET:0 - VAR:0 NUM:1 END BARRIER ADD NUM:0 NUM:1");
        Checks.due("some are over", x.run(4, 0), WarpDesk.OVER);
        Checks.due("those that are not", x.counter(0), 2);
        Checks.due("their steps", x.steps(0) * 1000 + x.steps(1), 4204);
    }

    private static void whatItStoredCounts() {
        Desk x = Desk.with("IF THREAD BARRIER SET:0 WORD NUM:1 SET:1 COUNTER NUM:1 BARRIER STORE NUM:2 NUM:8 ELSE "
            + "STORE NUM:1 NUM:5 ADD NUM:1 NUM:6 WHILE NUM:1 SET:2 + VAR:2 NUM:1 END END");
        Checks.due("run", x.run(2, 0), WarpDesk.OVER);
        Checks.due("its store, for the other one", x.variable(1, 0), 5);
        Checks.due("its sum, for the other one", x.variable(1, 1), 6);
        Checks.due("its store, in the end", x.word(1), 5);
        Checks.due("its sum, in the end", x.counter(1), 6);
        Checks.due("the other one's store", x.word(2), 8);
        Checks.due("its variable", x.variable(0, 2), 148);
        Checks.due("its last WHILE", x.done(20), 149);
        Checks.due("its last SET", x.done(22), 148);
        x = Desk.with("WHILE NUM:1 STORE THREAD + WORD THREAD NUM:1 ADD NUM:5 NUM:1 END");
        Checks.due("run of all", x.run(2, 0), WarpDesk.OVER);
        Checks.due("words of all", x.word(0) * 1000 + x.word(1), 100100);
        Checks.due("sum of all", x.counter(5), 200);
        x = Desk.with("WHILE NUM:1 STORE NUM:1 THREAD END").after(2, 0);
        Checks.due("the last one by number", x.word(1), 1);
        Checks.due("their race", x.ran(3), 1);
        x = Desk.with("STORE NUM:1 NUM:3 BARRIER IF THREAD ELSE STORE NUM:1 NUM:4 WHILE NUM:1 END END").after(2, 0);
        Checks.due("a store of a later phase", x.word(1), 4);
        Checks.due("a race of the earlier one", x.ran(3), 1);
    }

    private static void overWhenAllAreDone() {
        Desk x = Desk.with("IF THREAD BARRIER BARRIER BARRIER STORE NUM:9 NUM:1 ELSE WHILE NUM:1 END END");
        Checks.due("the first one over, the last one long after", x.run(2, 0), WarpDesk.OVER);
        Checks.due("its phases", x.ran(0), 4);
        Checks.due("its last store", x.word(9), 1);
        x = Desk.with("IF THREAD WHILE NUM:1 END ELSE BARRIER BARRIER BARRIER STORE NUM:9 NUM:1 END");
        Checks.due("the last one over, the first one long after", x.run(2, 0), WarpDesk.OVER);
        Checks.due("its phases", x.ran(0), 4);
        Checks.due("its last store", x.word(9), 1);
        x = Desk.with("IF = THREAD NUM:1 WHILE NUM:1 END END");
        Checks.due("one in the middle", x.run(3, 0), WarpDesk.OVER);
        Checks.due("it alone is not there", x.run(1, 0), OK);
    }

    private static void fiveHundredAndTwelve() {
        Desk x = Desk.with("ADD NUM:1 NUM:1");
        for (int i = 0; i < 254; i++) {
            Checks.due("run " + i, x.run(32, i), OK);
            Checks.due("counter after run " + i, x.counter(1), 32 * (i + 1));
        }
        x = Desk.with("WHILE NUM:1 " + "BARRIER ".repeat(59) + "END");
        for (int i = 0; i < 450; i++) {
            Checks.due("long run " + i, x.run(1 + i % 32, i), WarpDesk.OVER);
        }
    }

    private static void promise(int number, String sentence, Runnable test) {
        Checks.holds("Promise " + number, sentence, test);
    }
}

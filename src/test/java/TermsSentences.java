/** A test for each sentence of the document's "Terms" that names a boundary case. */
public final class TermsSentences {
    private static final int MIN = Integer.MIN_VALUE, MAX = Integer.MAX_VALUE, NONE = WarpDesk.NONE, OK = WarpDesk.OK;
    private static final int[] EDGES = {MIN, MIN + 1, -65, -64, -1, 0, 1, 5, 6, 63, 64, 65, MAX - 1, MAX};

    public static void main(String[] args) {
        Checks.begin();
        terms("A PROGRAM is a row of up to 64 TOKENS", TermsSentences::upTo64Tokens);
        terms("[ 4 ELSE .. ] 5 END", TermsSentences::elseOnceAndForIfAlone);
        terms("with rows of statements (perhaps none) for the dots", TermsSentences::rowsPerhapsOfNone);
        terms("a SET's value is the number v of its VARIABLE, 0..5", TermsSentences::setsItsVariable);
        terms("EXPRESSIONS E are in prefix notation", TermsSentences::prefixNotation);
        terms("of at most 16 tokens", TermsSentences::atMost16Tokens);
        terms("10 NUM (the value)", TermsSentences::numbers);
        terms("11 VAR (value 0..5)", TermsSentences::variables);
        terms("12 THREAD (its number), 13 SIZE (how many threads there are)", TermsSentences::threadAndSize);
        terms("14 ARG", TermsSentences::argument);
        terms("Ints that wrap", TermsSentences::intsThatWrap);
        terms("/ rounds towards 0", TermsSentences::roundsTowardsZero);
        terms("% is what is left", TermsSentences::whatIsLeft);
        terms("both are 0 for a divisor 0", TermsSentences::divisorZero);
        terms("= to NOT are 1 or 0", TermsSentences::oneOrZero);
        terms("anything but 0 counting as yes", TermsSentences::anythingButZero);
        terms("SELECT is its second operand if the first is not 0, else the third", TermsSentences::select);
        terms("Values are looked at for 0, 10 and 11 alone", TermsSentences::valuesLookedAt);
        terms("64 WORDS and 64 COUNTERS, ints", TermsSentences::allCells);
        terms("an index counts by its lowest 6 bits", TermsSentences::lowestBits);
        terms("an index counts by its lowest 6 bits (inside a program)", TermsSentences::lowestBitsInside);
        terms("each with variables that are 0 at first", TermsSentences::variablesAtFirst);
        terms("until it does a BARRIER (it goes on behind it in the next phase)", TermsSentences::goesOnBehindBarrier);
        terms("or is done: behind the program's last statement, by RETURN", TermsSentences::isDone);
        terms("when it has done 300 statements and comes to another one", TermsSentences::threeHundredStatements);
        terms("(then the run is OVER)", TermsSentences::thenTheRunIsOver);
        terms("IF and WHILE are done each time that their E is worked out", TermsSentences::doneEachTime);
        terms("ELSE and END are no statements", TermsSentences::noStatements);
        terms("The run ends with the phase in which all are done", TermsSentences::endsWhenAllAreDone);
        terms("In a phase WORD is what the word was when the phase began", TermsSentences::wordAtPhaseBegin);
        terms("or what the thread itself STOREd there last in this phase", TermsSentences::ownStore);
        terms("COUNTER is what the counter was when the phase began", TermsSentences::counterAtPhaseBegin);
        terms("what the last one of the threads (by number) that stored it stored last", TermsSentences::lastOneWins);
        terms("counters grow by all that was ADDed (index, then what is added)", TermsSentences::countersGrow);
        terms("A RACE is a word that in one phase was stored by two threads", TermsSentences::raceOfStores);
        terms("or stored by one and read by another one", TermsSentences::raceOfStoreAndRead);
        Checks.end();
    }

    // ---- programs ----

    private static void upTo64Tokens() {
        Desk x = Desk.with("BARRIER ".repeat(64));
        Checks.due("wrong of 64 BARRIERs", x.wrong(), NONE);
        Checks.due("run of 64 BARRIERs", x.run(3, 0), OK);
        Checks.due("the last BARRIER", x.done(63), 3);
        Checks.due("phases of 64 BARRIERs", x.ran(0), 65);
        Checks.due("a 65th token", x.token(7, 0), NONE);
        Checks.due("wipe of 64", x.wipe(), 64);
        x = Desk.with("SET:0 + VAR:0 NUM:1 ".repeat(16)).after(1, 0);
        Checks.due("16 SETs", x.variable(0, 0), 16);
        Checks.due("the last SET", x.done(60), 1);
        x = Desk.with("BARRIER ".repeat(62) + "SET:0 NUM:7").after(1, 0);
        Checks.due("an operand as the last token", x.variable(0, 0), 7);
        x = Desk.with("BARRIER ".repeat(55) + "WHILE < VAR:0 NUM:3 SET:0 + VAR:0 NUM:1 END");
        Checks.due("a WHILE up to the last token", x.run(1, 0), OK);
        Checks.due("its variable", x.variable(0, 0), 3);
        Checks.due("its steps", x.steps(0), 55 + 4 + 3);
        x = Desk.with("IF NUM:1 ".repeat(21) + "END ".repeat(21) + "RETURN").after(2, 0);
        Checks.due("21 IFs in each other", x.steps(1), 22);
        x = Desk.with("WHILE NOT VAR:5 ".repeat(15) + "SET:5 NUM:1 " + "END ".repeat(15) + "SET:4 NUM:1").after(1, 0);
        Checks.due("15 WHILEs in each other", x.steps(0), 15 + 1 + 15 + 1);
        Checks.due("behind them", x.variable(0, 4), 1);
        Checks.due("they fill the program", x.wipe(), 64);
    }

    private static void elseOnceAndForIfAlone() {
        Checks.due("two ELSEs", Desk.with("IF NUM:1 ELSE ELSE END").wrong(), 3);
        Checks.due("a second ELSE behind statements", Desk.with("IF NUM:1 ELSE BARRIER ELSE END").wrong(), 4);
        Checks.due("an ELSE for a WHILE", Desk.with("WHILE NUM:1 ELSE END").wrong(), 2);
        Checks.due("an ELSE in an IF's WHILE", Desk.with("IF NUM:1 WHILE NUM:0 ELSE END END").wrong(), 4);
        Checks.due("an ELSE in an ELSE's WHILE", Desk.with("IF NUM:1 ELSE WHILE NUM:0 ELSE END END").wrong(), 5);
        Checks.due("an ELSE in a WHILE's IF", Desk.with("WHILE NUM:0 IF NUM:1 ELSE END END").wrong(), NONE);
        Checks.due("an ELSE for each of two IFs", Desk.with("IF NUM:1 IF NUM:1 ELSE END ELSE END").wrong(), NONE);
        Checks.due("an ELSE behind the END", Desk.with("IF NUM:1 END ELSE END").wrong(), 3);
        Checks.due("no END", Desk.with("IF NUM:1 ELSE").wrong(), 3);
        Checks.due("one END for two", Desk.with("WHILE NUM:0 IF NUM:1 ELSE END").wrong(), 6);
        Checks.due("an END too many", Desk.with("WHILE NUM:0 END END").wrong(), 3);
    }

    private static void rowsPerhapsOfNone() {
        row("", 0);
        row("IF NUM:1 END", 1);
        row("IF NUM:0 END", 1);
        row("IF NUM:1 ELSE END", 1);
        row("IF NUM:0 ELSE END", 1);
        row("IF NUM:1 SET:0 NUM:1 ELSE END", 2);
        row("IF NUM:0 SET:0 NUM:1 ELSE END", 1);
        row("IF NUM:1 ELSE SET:0 NUM:1 END", 1);
        row("IF NUM:0 ELSE SET:0 NUM:1 END", 2);
        row("WHILE NUM:0 END", 1);
        row("IF NUM:1 WHILE NUM:0 END ELSE WHILE NUM:0 END END", 2);
        row("IF NUM:0 IF NUM:1 END ELSE IF NUM:0 ELSE END END", 2);
        Desk x = Desk.with("WHILE NUM:1 END");
        Checks.due("wrong of an endless row of none", x.wrong(), NONE);
        Checks.due("an endless row of none", x.run(1, 0), WarpDesk.OVER);
        Checks.due("its steps", x.steps(0), 300);
        x = Desk.with("WHILE < COUNTER NUM:0 NUM:3 ADD NUM:0 NUM:1 BARRIER END SET:5 NUM:9").after(1, 0);
        Checks.due("a row of two", x.variable(0, 5), 9);
    }

    private static void row(String text, int steps) {
        Desk x = Desk.with(text);
        Checks.due("wrong of " + text, x.wrong(), NONE);
        Checks.due("run of " + text, x.run(1, 0), OK);
        Checks.due("steps of " + text, x.steps(0), steps);
        x = Desk.with(text + " SET:5 NUM:9").after(1, 0);
        Checks.due("what is behind " + text, x.variable(0, 5), 9);
        Checks.due("steps with what is behind " + text, x.steps(0), steps + 1);
    }

    private static void setsItsVariable() {
        for (int v = 0; v <= 5; v++) {
            Desk x = Desk.with("SET:" + v + " NUM:" + (v + 7)).after(3, 0);
            for (int other = 0; other <= 5; other++) {
                Checks.due("variable " + other + " after SET " + v, x.variable(1, other), other == v ? v + 7 : 0);
            }
        }
        Desk x = new Desk();
        int[] odd = {-1, 6, 7, 64, MIN, MAX};
        for (int v : odd) {
            Checks.due("SET " + v, x.token(0, v), NONE);
        }
        Checks.due("no token", x.wipe(), 0);
    }

    // ---- expressions ----

    private static void prefixNotation() {
        value("- NUM:9 NUM:4", 5);
        value("- - NUM:9 NUM:4 NUM:3", 2);
        value("- NUM:9 - NUM:4 NUM:3", 8);
        value("- - NUM:9 NUM:3 - NUM:5 NUM:1", 2);
        value("/ NUM:20 NUM:6", 3);
        value("% NUM:20 NUM:6", 2);
        value("< NUM:1 NUM:2", 1);
        value("SELECT - NUM:1 NUM:1 - NUM:8 NUM:1 - NUM:9 NUM:1", 8);
        value("NEG - NOT NUM:0 NEG NUM:4", -5);
        value("- SELECT NUM:1 NUM:6 NUM:7 SELECT NUM:0 NUM:6 NUM:2", 4);
        Checks.due("an operator behind its operands", Desk.with("SET:0 NUM:9 NUM:4 -").wrong(), 2);
        Checks.due("an operator between them", Desk.with("SET:0 NUM:9 - NUM:4").wrong(), 2);
        Checks.due("an operand too few", Desk.with("SET:0 - NUM:9").wrong(), 3);
        Checks.due("an operand too many", Desk.with("SET:0 - NUM:9 NUM:4 NUM:4").wrong(), 4);
    }

    private static void atMost16Tokens() {
        String negs = "NEG ".repeat(15) + "NUM:5";
        String leftwards = "NEG " + "- ".repeat(7) + "NUM:100 NUM:1 NUM:2 NUM:3 NUM:4 NUM:5 NUM:6 NUM:7";
        String rightwards = "- NUM:1 ".repeat(7) + "NEG NUM:4";
        String selects = "SELECT ".repeat(5) + "NUM:0 NUM:1 NUM:0 NUM:2 NUM:3 NUM:0 NUM:4 NUM:5 NUM:6 NUM:7 NUM:8";
        String others = "SELECT NUM:0 NUM:2 ".repeat(5) + "NUM:3";
        value(negs, -5);
        value(leftwards, -72);
        value(rightwards, 5);
        value(selects, 7);
        value(others, 3);
        String[] places = {"SET:3", "STORE", "STORE NUM:1", "ADD", "ADD NUM:1", "IF", "WHILE"};
        String[] behind = {"", " NUM:1", "", " NUM:1", "", " END", " END"};
        String[] sixteens = {negs, leftwards, rightwards, selects, others};
        for (int i = 0; i < places.length; i++) {
            int start = places[i].split(" ").length;
            for (String sixteen : sixteens) {
                String good = places[i] + " " + sixteen + behind[i];
                Checks.due("wrong of " + good, Desk.with(good).wrong(), NONE);
                String bad = places[i] + " NOT " + sixteen + behind[i];
                Checks.due("wrong of " + bad, Desk.with(bad).wrong(), start + 16);
            }
        }
        Desk x = Desk.with("STORE " + leftwards + " " + selects + " IF " + negs + " SET:1 NUM:1 END");
        Checks.due("16 and 16 and 16", x.run(1, 0), OK);
        Checks.due("what was stored", x.word(-72), 7);
        Checks.due("the condition", x.variable(0, 1), 1);
    }

    private static void numbers() {
        for (int number : EDGES) {
            value("NUM:" + number, number);
        }
    }

    private static void variables() {
        Desk x = Desk.with("SET:0 NUM:10 SET:1 NUM:11 SET:2 NUM:12 SET:3 NUM:13 SET:4 NUM:14 SET:5 NUM:15 "
            + "STORE NUM:0 VAR:0 STORE NUM:1 VAR:1 STORE NUM:2 VAR:2 STORE NUM:3 VAR:3 STORE NUM:4 VAR:4 STORE NUM:5 VAR:5");
        x.run(1, 0);
        for (int v = 0; v <= 5; v++) {
            Checks.due("VAR " + v, x.word(v), 10 + v);
        }
        int[] odd = {-1, 6, 7, 64, MIN, MAX};
        for (int v : odd) {
            Checks.due("VAR " + v, new Desk().token(11, v), NONE);
        }
        x = Desk.with("SET:0 THREAD BARRIER SET:1 VAR:0").after(32, 0);
        for (int thread = 0; thread < 32; thread++) {
            Checks.due("the own variable of " + thread, x.variable(thread, 1), thread);
        }
    }

    private static void threadAndSize() {
        for (int n = 1; n <= 32; n++) {
            Desk x = Desk.with("SET:0 THREAD SET:1 SIZE").after(n, 77);
            for (int thread = 0; thread < n; thread++) {
                Checks.due("THREAD of " + thread, x.variable(thread, 0), thread);
                Checks.due("SIZE of " + n, x.variable(thread, 1), n);
            }
        }
    }

    private static void argument() {
        for (int arg : EDGES) {
            Desk x = Desk.with("SET:5 ARG").after(2, arg);
            Checks.due("ARG", x.variable(0, 5), arg);
            Checks.due("ARG of the other one", x.variable(1, 5), arg);
            x.run(2, 3);
            Checks.due("ARG of the next run", x.variable(1, 5), 3);
        }
    }

    private static void intsThatWrap() {
        value("+ NUM:2147483647 NUM:1", MIN);
        value("+ NUM:-2147483648 NUM:-1", MAX);
        value("+ NUM:-2147483648 NUM:-2147483648", 0);
        value("- NUM:-2147483648 NUM:1", MAX);
        value("- NUM:0 NUM:-2147483648", MIN);
        value("* NUM:65536 NUM:65536", 0);
        value("* NUM:65536 NUM:65537", 65536);
        value("* NUM:2147483647 NUM:2147483647", 1);
        value("* NUM:-2147483648 NUM:-1", MIN);
        value("/ NUM:-2147483648 NUM:-1", MIN);
        value("% NUM:-2147483648 NUM:-1", 0);
        value("NEG NUM:-2147483648", MIN);
        value("< + NUM:2147483647 NUM:1 NUM:0", 1);
        value("< - NUM:-2147483648 NUM:1 NUM:0", 0);
        Desk x = Desk.with("ADD NUM:4 NUM:2147483647 ADD NUM:4 NUM:2 ADD NUM:5 NUM:-2147483648 ADD NUM:5 NUM:-1");
        x.run(1, 0);
        Checks.due("a counter that wraps", x.counter(4), MIN + 1);
        Checks.due("a counter that wraps below", x.counter(5), MAX);
        x.run(2, 0);
        Checks.due("it goes on", x.counter(4), MAX - 2 + 6);
    }

    private static void roundsTowardsZero() {
        value("/ NUM:7 NUM:2", 3);
        value("/ NUM:-7 NUM:2", -3);
        value("/ NUM:7 NUM:-2", -3);
        value("/ NUM:-7 NUM:-2", 3);
        value("/ NUM:-1 NUM:2", 0);
        value("/ NUM:1 NUM:-2147483648", 0);
        value("/ NUM:-2147483648 NUM:2147483647", -1);
        value("/ NUM:8 NUM:-2", -4);
    }

    private static void whatIsLeft() {
        value("% NUM:7 NUM:3", 1);
        value("% NUM:-7 NUM:3", -1);
        value("% NUM:7 NUM:-3", 1);
        value("% NUM:-7 NUM:-3", -1);
        value("% NUM:6 NUM:-3", 0);
        value("% NUM:-1 NUM:2", -1);
        value("% NUM:-2147483648 NUM:2147483647", -1);
        value("% NUM:2147483647 NUM:-2147483648", MAX);
    }

    private static void divisorZero() {
        for (int number : EDGES) {
            value("/ NUM:" + number + " NUM:0", 0);
            value("% NUM:" + number + " NUM:0", 0);
        }
        value("/ NUM:5 - NUM:3 NUM:3", 0);
        value("% NUM:5 WORD NUM:9", 0);
        Desk x = Desk.with("STORE / NUM:5 NUM:0 % NUM:7 THREAD").after(3, 0);
        Checks.due("the run goes on", x.ran(1), 3);
        Checks.due("the last one's rest", x.word(0), 1);
    }

    private static void oneOrZero() {
        for (int a : EDGES) {
            for (int b : EDGES) {
                String both = " NUM:" + a + " NUM:" + b;
                Desk x = Desk.with("SET:0 =" + both + " SET:1 <" + both + " SET:2 AND" + both + " SET:3 OR" + both);
                x.run(1, 0);
                Checks.due("=" + both, x.variable(0, 0), a == b ? 1 : 0);
                Checks.due("<" + both, x.variable(0, 1), a < b ? 1 : 0);
                Checks.due("AND" + both, x.variable(0, 2), a == 0 || b == 0 ? 0 : 1);
                Checks.due("OR" + both, x.variable(0, 3), a == 0 && b == 0 ? 0 : 1);
            }
            value("NOT NUM:" + a, a == 0 ? 1 : 0);
        }
    }

    private static void anythingButZero() {
        value("AND NUM:1 NUM:2", 1);
        value("AND NUM:-2147483648 NUM:1", 1);
        value("OR NUM:0 NUM:-2147483648", 1);
        for (int number : EDGES) {
            int yes = number != 0 ? 1 : 0;
            value("NOT NOT NUM:" + number, yes);
            Desk x = Desk.with("IF ARG SET:0 NUM:3 ELSE SET:0 NUM:4 END WHILE ARG SET:1 NUM:5 RETURN END").after(1, number);
            Checks.due("IF " + number, x.variable(0, 0), 4 - yes);
            Checks.due("WHILE " + number, x.variable(0, 1), 5 * yes);
        }
    }

    private static void select() {
        for (int number : EDGES) {
            value("SELECT NUM:" + number + " NUM:8 NUM:9", number != 0 ? 8 : 9);
            value("SELECT NUM:1 NUM:" + number + " NUM:9", number);
            value("SELECT NUM:0 NUM:9 NUM:" + number, number);
        }
        value("SELECT SELECT NUM:1 NUM:0 NUM:1 NUM:8 SELECT NUM:1 - NUM:9 NUM:2 NUM:3", 7);
        value("SELECT NUM:2 SELECT NUM:0 NUM:3 NUM:4 NUM:5", 4);
    }

    private static void valuesLookedAt() {
        String text = "SET:0 + THREAD * SIZE ARG STORE - VAR:0 NUM:1 WORD VAR:0 ADD / VAR:0 NUM:3 % VAR:0 NUM:3 BARRIER "
            + "IF OR = VAR:0 NUM:4 < THREAD NUM:1 SET:1 COUNTER NUM:1 ELSE "
            + "SET:2 SELECT AND NUM:1 NOT VAR:1 NEG THREAD NUM:3 END WHILE < VAR:3 NUM:2 SET:3 + VAR:3 NUM:1 END RETURN";
        int[] want = Desk.with(text).after(3, 1).all();
        for (int odd : EDGES) {
            int[] got = Desk.with(text.replaceAll("(?<=^| )([^ :]+)(?= |$)", "$1:" + odd)).after(3, 1).all();
            for (int i = 0; i < want.length; i++) {
                Checks.due("answer " + i + " of all with values " + odd, got[i], want[i]);
            }
        }
        int[] kinds = {1, 2, 3, 4, 5, 6, 7, 8, 10, 12, 13, 14, 15, 16, 20, 21, 22, 23, 24, 25, 26, 27, 28, 29, 30, 31};
        for (int kind : kinds) {
            Desk x = new Desk();
            for (int i = 0; i < EDGES.length; i++) {
                Checks.due("token(" + kind + ", " + EDGES[i] + ")", x.token(kind, EDGES[i]), i + 1);
            }
        }
    }

    private static void value(String expression, int want) {
        Desk x = Desk.with("SET:4 " + expression);
        Checks.due("run of " + expression, x.run(1, 0), OK);
        Checks.due(expression, x.variable(0, 4), want);
    }

    // ---- memory ----

    private static void allCells() {
        Desk x = Desk.with("WHILE < VAR:0 NUM:64 STORE VAR:0 + VAR:0 NUM:100 ADD VAR:0 + VAR:0 NUM:200 SET:0 + VAR:0 NUM:1 END");
        Checks.due("run over all cells", x.run(1, 0), OK);
        for (int i = 0; i < 64; i++) {
            Checks.due("word " + i, x.word(i), i + 100);
            Checks.due("counter " + i, x.counter(i), i + 200);
        }
        int[] ints = {MIN, -1, 0, MAX};
        for (int number : ints) {
            x.put(3, number);
            Checks.due("word as an int", x.word(3), number);
            x.load("STORE NUM:5 NUM:" + number).after(1, 0);
            Checks.due("word stored as an int", x.word(5), number);
            x.wipe();
        }
    }

    private static void lowestBits() {
        for (int index : EDGES) {
            int cell = Math.floorMod(index, 64);
            Desk x = Desk.with("ADD NUM:" + cell + " NUM:8").after(1, 0);
            Checks.due("put at " + index, x.put(index, 7), 0);
            Checks.due("word " + cell + " after put at " + index, x.word(cell), 7);
            Checks.due("word at " + index, x.word(index), 7);
            Checks.due("put at " + cell, x.put(cell, 9), 7);
            Checks.due("word at " + index + " again", x.word(index), 9);
            Checks.due("counter at " + index, x.counter(index), 8);
            for (int other = 0; other < 64; other++) {
                Checks.due("word " + other + " by itself", x.word(other), other == cell ? 9 : 0);
                Checks.due("counter " + other + " by itself", x.counter(other), other == cell ? 8 : 0);
            }
        }
        Desk x = new Desk();
        for (int i = 0; i < 64; i++) {
            x.put(i, i * i + 1);
        }
        for (int i = -200; i <= 200; i++) {
            int cell = Math.floorMod(i, 64);
            Checks.due("word " + i, x.word(i), cell * cell + 1);
        }
    }

    private static void lowestBitsInside() {
        for (int index : EDGES) {
            int cell = Math.floorMod(index, 64);
            String there = " NUM:" + index;
            String here = " NUM:" + cell;
            Desk x = Desk.with("STORE" + there + " NUM:5 ADD" + there + " NUM:6 SET:0 WORD" + here + " SET:1 WORD" + there
                + " BARRIER SET:2 WORD" + there + " SET:3 COUNTER" + there + " SET:4 WORD" + here + " SET:5 COUNTER" + here);
            Checks.due("run with" + there, x.run(1, 0), OK);
            Checks.due("STORE" + there, x.word(cell), 5);
            Checks.due("ADD" + there, x.counter(cell), 6);
            int[] want = {5, 5, 5, 6, 5, 6};
            for (int v = 0; v < 6; v++) {
                Checks.due("variable " + v + " with" + there, x.variable(0, v), want[v]);
            }
            raced("IF THREAD STORE" + there + " NUM:1 ELSE STORE" + here + " NUM:1 END", 2, 1);
            raced("IF THREAD STORE" + there + " NUM:1 ELSE SET:0 WORD" + here + " END", 2, 1);
        }
        Desk x = Desk.with("STORE - THREAD NUM:3 + THREAD NUM:100").after(32, 0);
        for (int thread = 0; thread < 32; thread++) {
            Checks.due("word stored by " + thread, x.word(thread - 3), thread + 100);
        }
    }

    // ---- runs ----

    private static void variablesAtFirst() {
        String text = "STORE THREAD + + VAR:0 VAR:1 + + VAR:2 VAR:3 + VAR:4 VAR:5 "
            + "SET:0 NUM:1 SET:1 NUM:2 SET:2 NUM:4 SET:3 NUM:8 SET:4 NUM:16 SET:5 NUM:32";
        Desk x = Desk.with(text).after(32, 0);
        for (int again = 0; again < 2; again++) {
            for (int thread = 0; thread < 32; thread++) {
                Checks.due("what variables of " + thread + " were at first", x.word(thread), 0);
                Checks.due("what they were at the end", x.variable(thread, 5), 32);
                x.put(thread, 9);
            }
            x.run(32, 0);
        }
        x = Desk.with("SET:0 + VAR:0 NUM:1").after(4, 0).after(2, 0).after(4, 0);
        for (int thread = 0; thread < 4; thread++) {
            Checks.due("variable of " + thread + " after three runs", x.variable(thread, 0), 1);
        }
    }

    private static void goesOnBehindBarrier() {
        Desk x = Desk.with("SET:0 NUM:1 BARRIER SET:1 + VAR:0 NUM:1 BARRIER SET:2 + VAR:1 NUM:1").after(2, 0);
        Checks.due("behind two", x.variable(1, 2), 3);
        Checks.due("phases of two", x.ran(0), 3);
        x = Desk.with("IF THREAD BARRIER SET:0 NUM:1 ELSE BARRIER SET:0 NUM:2 END SET:1 NUM:3").after(2, 0);
        Checks.due("behind that of an IF", x.variable(1, 0) * 10 + x.variable(1, 1), 13);
        Checks.due("behind that of an ELSE", x.variable(0, 0) * 10 + x.variable(0, 1), 23);
        Checks.due("two BARRIERs, one phase between", x.ran(0), 2);
        x = Desk.with("WHILE < VAR:0 NUM:4 SET:0 + VAR:0 NUM:1 BARRIER END SET:1 NUM:5").after(3, 0);
        Checks.due("behind that of a WHILE", x.variable(2, 0) * 10 + x.variable(2, 1), 45);
        Checks.due("phases of a WHILE", x.ran(0), 5);
        x = Desk.with("BARRIER BARRIER BARRIER").after(32, 0);
        Checks.due("each one is done once", x.done(0) + x.done(1) + x.done(2), 96);
    }

    private static void isDone() {
        Desk x = Desk.with("SET:0 NUM:1 RETURN SET:0 NUM:2").after(1, 0);
        Checks.due("nothing behind RETURN", x.variable(0, 0), 1);
        Checks.due("RETURN is a statement", x.steps(0), 2);
        Checks.due("what is not done", x.done(3), 0);
        x = Desk.with("WHILE NUM:1 IF = VAR:0 THREAD RETURN ELSE SET:0 + VAR:0 NUM:1 END END SET:1 NUM:1");
        Checks.due("RETURN out of IF and WHILE", x.run(32, 0), OK);
        Checks.due("its steps", x.steps(31), 3 * 31 + 3);
        Checks.due("it goes nowhere", x.variable(31, 1), 0);
        x = Desk.with("IF = THREAD NUM:1 RETURN END BARRIER ADD NUM:0 NUM:1").after(3, 0);
        Checks.due("the others go on", x.counter(0), 2);
        Checks.due("phases", x.ran(0), 2);
        Checks.due("steps of the one", x.steps(1), 2);
        x = Desk.with("SET:0 NUM:1").after(1, 0);
        Checks.due("behind the last statement", x.ran(0), 1);
        Checks.due("its steps", x.ran(1), 1);
        Checks.due("with no statement", new Desk().after(1, 0).ran(0), 1);
        x = Desk.with("RETURN").after(32, 0);
        Checks.due("RETURN alone", x.ran(0) * 100 + x.ran(1), 132);
    }

    private static void threeHundredStatements() {
        // 1 + 2 * ARG + 1 statements, and then those behind the loop.
        String loop = "SET:0 ARG WHILE VAR:0 SET:0 - VAR:0 NUM:1 END ";
        limit(loop, 148, 298, OK);
        limit(loop, 149, 300, OK);
        limit(loop, 150, 300, WarpDesk.OVER);
        limit("SET:1 NUM:1 " + loop, 148, 299, OK);
        limit("SET:1 NUM:1 " + loop, 149, 300, WarpDesk.OVER);
        String[] last = {"SET:1 NUM:1", "STORE NUM:0 NUM:1", "ADD NUM:0 NUM:1", "IF NUM:0 END", "WHILE NUM:0 END", "BARRIER",
            "RETURN"};
        for (String statement : last) {
            limit(loop + statement, 148, 299, OK);
            limit("SET:1 NUM:1 " + loop + statement, 148, 300, OK);
            limit(loop + statement, 149, 300, WarpDesk.OVER);
        }
        Desk x = Desk.with("SET:0 ARG WHILE VAR:0 SET:0 - VAR:0 NUM:1 END").after(1, 150);
        Checks.due("300 statements, of them SETs in the loop", x.done(4), 149);
        Checks.due("and WHILEs", x.done(2), 150);
        x = Desk.with("WHILE NUM:1 BARRIER END").after(1, 0);
        Checks.due("300 in several phases", x.steps(0), 300);
        Checks.due("and no more for the next run", x.run(1, 0), WarpDesk.OVER);
        Checks.due("which has 300 again", x.steps(0), 300);
    }

    private static void limit(String text, int arg, int steps, int answer) {
        Desk x = Desk.with(text);
        Checks.due("run(32, " + arg + ") of " + text, x.run(32, arg), answer);
        Checks.due("first steps of " + text + " with " + arg, x.steps(0), steps);
        Checks.due("last steps of " + text + " with " + arg, x.steps(31), steps);
        Checks.due("all steps of " + text + " with " + arg, x.ran(1), 32 * steps);
        Checks.due("most steps of " + text + " with " + arg, x.ran(2), steps);
    }

    private static void thenTheRunIsOver() {
        for (int one = 0; one < 32; one++) {
            Desk x = Desk.with("WHILE = THREAD ARG END");
            Checks.due("over by thread " + one, x.run(32, one), WarpDesk.OVER);
            Checks.due("statements", x.ran(1), 300 + 31);
        }
        Desk x = Desk.with("WHILE ARG END");
        Checks.due("over by all", x.run(32, 1), WarpDesk.OVER);
        Checks.due("the next run is not over", x.run(32, 0), OK);
        Checks.due("the one behind it is", x.run(1, 1), WarpDesk.OVER);
        x = Desk.with("IF THREAD BARRIER BARRIER ELSE WHILE NUM:1 END END");
        Checks.due("over in the first of three phases", x.run(2, 0), WarpDesk.OVER);
        Checks.due("phases", x.ran(0), 3);
        x = Desk.with("IF THREAD BARRIER BARRIER WHILE NUM:1 END END");
        Checks.due("over in the last of three phases", x.run(2, 0), WarpDesk.OVER);
        Checks.due("phases again", x.ran(0), 3);
    }

    private static void doneEachTime() {
        Desk x = Desk.with("WHILE < VAR:0 THREAD SET:0 + VAR:0 NUM:1 END").after(5, 0);
        for (int thread = 0; thread < 5; thread++) {
            Checks.due("steps of " + thread, x.steps(thread), 2 * thread + 1);
        }
        Checks.due("WHILE with a last no", x.done(0), 5 + 10);
        Checks.due("its row", x.done(4), 10);
        x = Desk.with("WHILE < VAR:0 NUM:6 IF % VAR:0 NUM:2 END SET:0 + VAR:0 NUM:1 END").after(2, 0);
        Checks.due("IF, for yes and for no", x.done(4), 12);
        Checks.due("all", x.ran(1), 2 * (7 + 6 + 6));
        x = Desk.with("WHILE < VAR:0 NUM:3 SET:0 + VAR:0 NUM:1 SET:1 NUM:0 WHILE < VAR:1 NUM:2 SET:1 + VAR:1 NUM:1 END END");
        x.run(1, 0);
        Checks.due("the outer WHILE", x.done(0), 4);
        Checks.due("the inner WHILE", x.done(10), 3 * 3);
        Checks.due("the inner row", x.done(14), 3 * 2);
    }

    private static void noStatements() {
        Desk x = Desk.with("IF THREAD SET:0 NUM:1 ELSE SET:1 NUM:1 END WHILE < VAR:2 NUM:2 SET:2 + VAR:2 NUM:1 END").after(2, 0);
        Checks.due("ELSE", x.done(4), 0);
        Checks.due("END of IF", x.done(7), 0);
        Checks.due("END of WHILE", x.done(16), 0);
        Checks.due("steps of no", x.steps(0), 2 + 3 + 2);
        Checks.due("steps of yes", x.steps(1), 2 + 3 + 2);
        String loop = "SET:0 ARG WHILE VAR:0 SET:0 - VAR:0 NUM:1 END ";
        limit("IF NUM:1 " + loop + "END", 148, 299, OK);
        limit("IF NUM:1 IF NUM:1 IF NUM:1 " + loop + "END END END", 148, 300, WarpDesk.OVER);
        limit("IF NUM:1 IF NUM:1 " + loop + "END END", 148, 300, OK);
        limit("IF NUM:1 IF NUM:1 " + loop + "ELSE BARRIER END ELSE BARRIER END", 148, 300, OK);
        limit("WHILE NUM:1 SET:1 NUM:1 " + loop + "RETURN END", 147, 299, OK);
        limit("WHILE NOT VAR:5 SET:5 NUM:1 " + loop + "END", 147, 299, OK);
        limit("WHILE NOT VAR:5 SET:5 NUM:1 SET:4 NUM:1 " + loop + "END", 147, 300, OK);
        limit("WHILE NOT VAR:5 SET:5 NUM:1 " + loop + "END", 148, 300, WarpDesk.OVER);
    }

    private static void endsWhenAllAreDone() {
        String text = "SET:0 THREAD WHILE VAR:0 SET:0 - VAR:0 NUM:1 BARRIER END";
        for (int n = 1; n <= 32; n++) {
            Checks.due("phases with " + n, Desk.with(text).after(n, 0).ran(0), n);
        }
        String other = "SET:0 - NUM:31 THREAD WHILE VAR:0 SET:0 - VAR:0 NUM:1 BARRIER END";
        Checks.due("the last ones done first", Desk.with(other).after(32, 0).ran(0), 32);
        Checks.due("the first one done last", Desk.with("IF THREAD ELSE BARRIER END").after(32, 0).ran(0), 2);
        Checks.due("none with a BARRIER", Desk.with("SET:0 NUM:1").after(32, 0).ran(0), 1);
        Desk x = Desk.with("IF THREAD RETURN END STORE NUM:1 + WORD NUM:1 NUM:1 BARRIER STORE NUM:1 + WORD NUM:1 NUM:1");
        x.run(32, 0);
        Checks.due("who is done stores no more", x.word(1), 2);
        Checks.due("and runs no race", x.ran(3), 0);
    }

    private static void wordAtPhaseBegin() {
        Desk x = Desk.with("IF = THREAD ARG STORE NUM:5 NUM:1 ELSE SET:0 WORD NUM:5 END BARRIER SET:1 WORD NUM:5");
        int[] storers = {0, 1, 2};
        for (int storer : storers) {
            x.put(5, 44);
            x.run(3, storer);
            for (int thread = 0; thread < 3; thread++) {
                int seen = thread == storer ? 0 : 44;
                Checks.due("WORD for " + thread + " while " + storer + " stores", x.variable(thread, 0), seen);
                Checks.due("WORD for " + thread + " in the next phase", x.variable(thread, 1), 1);
            }
        }
        x = Desk.with("STORE NUM:5 + WORD NUM:5 NUM:1 BARRIER STORE NUM:5 + WORD NUM:5 NUM:1").after(32, 0);
        Checks.due("each one adds 1 to what was", x.word(5), 2);
        x = Desk.with("STORE + THREAD NUM:1 WORD THREAD");
        x.put(0, 7);
        x.put(1, 8);
        x.run(3, 0);
        Checks.due("nothing runs through the threads", x.word(1) * 100 + x.word(2) * 10 + x.word(3), 780);
    }

    private static void ownStore() {
        Desk x = Desk.with("SET:0 WORD NUM:1 STORE NUM:1 + THREAD NUM:10 SET:1 WORD NUM:1 STORE NUM:1 + THREAD NUM:50 "
            + "SET:2 WORD NUM:1 SET:3 WORD NUM:2 BARRIER SET:4 WORD NUM:1");
        x.put(1, 99);
        x.put(2, 98);
        x.run(32, 0);
        for (int thread = 0; thread < 32; thread++) {
            Checks.due("before the own STORE of " + thread, x.variable(thread, 0), 99);
            Checks.due("after it", x.variable(thread, 1), 10 + thread);
            Checks.due("after another one", x.variable(thread, 2), 50 + thread);
            Checks.due("another word", x.variable(thread, 3), 98);
            Checks.due("the own STORE is of this phase", x.variable(thread, 4), 81);
        }
        x = Desk.with("STORE NUM:1 NUM:0 SET:0 WORD NUM:1 STORE NUM:2 WORD NUM:1");
        x.put(1, 5);
        x.put(2, 6);
        x.run(1, 0);
        Checks.due("a 0 is stored like others", x.variable(0, 0) + x.word(1) + x.word(2), 0);
        x = Desk.with("IF ARG STORE NUM:6 NUM:1 END SET:0 WORD NUM:6").after(2, 1);
        x.put(6, 50);
        x.run(2, 0);
        Checks.due("a STORE of an earlier run", x.variable(0, 0) + x.variable(1, 0), 100);
    }

    private static void counterAtPhaseBegin() {
        Desk x = Desk.with("SET:0 COUNTER NUM:1 ADD NUM:1 NUM:3 SET:1 COUNTER NUM:1 BARRIER SET:2 COUNTER NUM:1 "
            + "ADD NUM:1 NUM:3 SET:3 COUNTER NUM:1").after(3, 0);
        for (int thread = 0; thread < 3; thread++) {
            Checks.due("before the ADD", x.variable(thread, 0), 0);
            Checks.due("after it, also the own one", x.variable(thread, 1), 0);
            Checks.due("in the next phase", x.variable(thread, 2), 9);
            Checks.due("after the next ADD", x.variable(thread, 3), 9);
        }
        Checks.due("in the end", x.counter(1), 18);
        x.run(1, 0);
        Checks.due("a later run begins with it", x.variable(0, 0), 18);
        Checks.due("and adds", x.counter(1), 24);
        x = Desk.with("ADD NUM:2 + COUNTER NUM:2 NUM:1 BARRIER ADD NUM:2 + COUNTER NUM:2 NUM:1").after(2, 0);
        Checks.due("each one adds what was, and 1", x.counter(2), 2 + 2 * 3);
    }

    private static void lastOneWins() {
        Desk x = Desk.with("STORE NUM:1 THREAD STORE NUM:1 + THREAD NUM:50").after(32, 0);
        Checks.due("thread 31's last one", x.word(1), 81);
        x = Desk.with("IF < THREAD ARG STORE NUM:1 + THREAD NUM:50 END");
        for (int storers = 1; storers <= 32; storers++) {
            x.run(32, storers);
            Checks.due("the last one that stored", x.word(1), 49 + storers);
        }
        x = Desk.with("IF THREAD STORE NUM:1 NUM:6 ELSE WHILE < VAR:0 NUM:9 STORE NUM:1 VAR:0 SET:0 + VAR:0 NUM:1 END END");
        x.run(2, 0);
        Checks.due("by number, whoever does more", x.word(1), 6);
        x = Desk.with("IF = THREAD NUM:3 STORE NUM:5 NUM:3 END IF = THREAD NUM:0 BARRIER STORE NUM:5 NUM:77 END").after(4, 0);
        Checks.due("a later phase comes after all threads", x.word(5), 77);
        x = Desk.with("IF THREAD STORE NUM:1 NUM:0 ELSE STORE NUM:1 NUM:4 END");
        x.put(1, 9);
        x.run(2, 0);
        Checks.due("a 0 wins too", x.word(1), 0);
        x.put(2, 8);
        x.run(2, 0);
        Checks.due("what is not stored stays", x.word(2), 8);
    }

    private static void countersGrow() {
        Desk x = Desk.with("ADD NUM:4 NUM:50 ADD NUM:4 THREAD ADD NUM:5 NUM:-3 ADD NUM:5 NUM:0").after(32, 0);
        Checks.due("the index is first", x.counter(4), 32 * 50 + 496);
        Checks.due("it may fall", x.counter(5), -96);
        Checks.due("not second", x.counter(50) + x.counter(0) + x.counter(61), 0);
        Checks.due("words are others", x.word(4) + x.word(5), 0);
        x.run(1, 0);
        Checks.due("and grows on", x.counter(4), 32 * 50 + 496 + 50);
        x = Desk.with("ADD THREAD NUM:1 BARRIER ADD THREAD NUM:10 BARRIER").after(2, 0);
        Checks.due("each phase counts once", x.counter(0) * 100 + x.counter(1), 1111);
    }

    // ---- races ----

    private static void raceOfStores() {
        raced("STORE NUM:0 NUM:1", 1, 0);
        raced("STORE NUM:0 NUM:1 STORE NUM:0 NUM:2", 1, 0);
        raced("STORE NUM:0 NUM:1", 2, 1);
        raced("STORE NUM:0 NUM:1", 3, 1);
        raced("STORE NUM:0 NUM:1", 32, 1);
        raced("STORE NUM:63 NUM:0", 2, 1);
        raced("STORE THREAD NUM:1", 32, 0);
        raced("STORE / THREAD NUM:2 NUM:1", 32, 16);
        raced("STORE % THREAD NUM:31 NUM:1", 32, 1);
        raced("STORE NUM:0 NUM:1 STORE NUM:1 NUM:1 STORE NUM:2 NUM:1 STORE + NUM:3 THREAD NUM:1", 2, 3);
        raced("STORE NUM:0 NUM:1 STORE NUM:0 NUM:1", 2, 1);
        raced("STORE NUM:0 NUM:1 BARRIER STORE NUM:0 NUM:1", 2, 2);
        raced("STORE NUM:0 NUM:1 BARRIER STORE NUM:9 NUM:1 STORE NUM:8 NUM:1 BARRIER BARRIER STORE NUM:0 NUM:1", 2, 4);
        raced("IF THREAD STORE NUM:0 NUM:1 BARRIER ELSE BARRIER STORE NUM:0 NUM:1 END", 2, 0);
        raced("IF THREAD BARRIER STORE NUM:0 NUM:1 ELSE STORE NUM:0 NUM:1 END", 2, 0);
        raced("IF THREAD BARRIER STORE NUM:0 NUM:1 ELSE STORE NUM:0 NUM:1 END", 3, 1);
        for (int other = 0; other < 31; other++) {
            raced("IF OR = THREAD NUM:" + other + " = THREAD NUM:31 STORE NUM:7 NUM:1 END", 32, 1);
        }
        Desk x = Desk.with("STORE NUM:0 NUM:1").after(2, 0);
        Checks.due("a race of the run", x.ran(3), 1);
        x.run(1, 0);
        Checks.due("none of the next", x.ran(3), 0);
        x.run(2, 0);
        Checks.due("one of that behind it", x.ran(3), 1);
    }

    private static void raceOfStoreAndRead() {
        raced("SET:0 WORD NUM:0", 32, 0);
        raced("STORE NUM:0 WORD NUM:0", 1, 0);
        raced("STORE NUM:0 NUM:1 SET:0 WORD NUM:0", 1, 0);
        raced("STORE THREAD WORD THREAD SET:0 WORD THREAD", 32, 0);
        raced("IF THREAD STORE NUM:0 NUM:1 ELSE SET:0 WORD NUM:0 END", 2, 1);
        raced("IF THREAD SET:0 WORD NUM:0 ELSE STORE NUM:0 NUM:1 END", 2, 1);
        raced("IF THREAD SET:0 WORD NUM:0 ELSE STORE NUM:0 NUM:1 END", 32, 1);
        raced("STORE THREAD WORD + THREAD NUM:1", 32, 31);
        raced("STORE + THREAD NUM:1 WORD THREAD", 32, 31);
        raced("IF THREAD STORE NUM:0 WORD NUM:0 ELSE SET:0 WORD NUM:0 END", 2, 1);
        raced("IF THREAD STORE NUM:0 NUM:1 BARRIER ELSE BARRIER SET:0 WORD NUM:0 END", 2, 0);
        raced("IF THREAD BARRIER STORE NUM:0 NUM:1 ELSE SET:0 WORD NUM:0 BARRIER END", 2, 0);
        raced("IF THREAD STORE NUM:0 NUM:1 ELSE SET:0 WORD NUM:0 END BARRIER SET:0 WORD NUM:0", 2, 1);
        raced("IF THREAD STORE NUM:0 NUM:1 ELSE SET:0 WORD NUM:1 END", 2, 0);
        raced("IF THREAD STORE NUM:7 NUM:1 ELSE STORE WORD NUM:7 NUM:1 END", 2, 1);
        raced("IF THREAD STORE NUM:7 NUM:1 ELSE STORE NUM:8 WORD NUM:7 END", 2, 1);
        raced("IF THREAD STORE NUM:7 NUM:1 ELSE ADD WORD NUM:7 NUM:1 END", 2, 1);
        raced("IF THREAD STORE NUM:7 NUM:1 ELSE ADD NUM:1 WORD NUM:7 END", 2, 1);
        raced("IF THREAD STORE NUM:7 NUM:1 ELSE IF WORD NUM:7 END END", 2, 1);
        raced("IF THREAD STORE NUM:7 NUM:1 ELSE WHILE WORD NUM:7 END END", 2, 1);
        raced("IF THREAD STORE NUM:7 NUM:1 ELSE SET:0 WORD WORD NUM:6 END STORE NUM:6 NUM:7", 2, 1);
        raced("IF THREAD STORE NUM:7 NUM:1 ELSE STORE NUM:6 NUM:7 SET:0 WORD WORD NUM:6 END", 2, 1);
        raced("IF THREAD STORE NUM:7 NUM:1 ELSE ADD NUM:7 COUNTER NUM:7 END", 2, 0);
        raced("ADD NUM:7 COUNTER NUM:7", 32, 0);
        for (int other = 0; other < 31; other++) {
            raced("IF = THREAD NUM:" + other + " SET:0 WORD NUM:7 END IF = THREAD NUM:31 STORE NUM:7 NUM:1 END", 32, 1);
            raced("IF = THREAD NUM:" + other + " STORE NUM:7 NUM:1 END IF = THREAD NUM:31 SET:0 WORD NUM:7 END", 32, 1);
        }
        Desk x = Desk.with("IF ARG SET:0 WORD NUM:3 ELSE IF THREAD STORE NUM:3 NUM:1 END END").after(2, 1).after(2, 0);
        Checks.due("reads of an earlier run", x.ran(3), 0);
    }

    private static void raced(String text, int threads, int want) {
        Checks.due("races of " + text + " with " + threads, Desk.with(text).after(threads, 0).ran(3), want);
    }

    private static void terms(String sentence, Runnable test) {
        Checks.holds("Terms", sentence, test);
    }
}

/** What the tests have in common: answers against what is due, told under the words that ask for them. */
final class Checks {
    private static final int MAX_SECONDS = 120;
    private static final int MAX_TOLD = 60;

    private static String words = "";
    private static int answers = 0;
    private static int failures = 0;

    private Checks() {
    }

    /** A call that never ends is a failure too (LANGUAGE.md, rule 7), so it must not hold up .ci/run. */
    static void begin() {
        Thread watch = new Thread(Checks::endLate);
        watch.setDaemon(true);
        watch.start();
    }

    /** A test for some words of the document; one that looks at nothing fails. */
    static void holds(String place, String sentence, Runnable test) {
        words = place + ", \"" + sentence + "\"";
        int before = answers;
        try {
            test.run();
        } catch (RuntimeException fault) {
            fail(fault.toString());
        }
        if (answers == before) {
            fail("nothing was looked at");
        }
    }

    static void due(String what, int got, int want) {
        answers++;
        if (got != want) {
            fail(what + " answered " + got + ", due is " + want);
        }
    }

    static void fail(String what) {
        failures++;
        if (failures <= MAX_TOLD) {
            System.out.println(words + ": " + what);
        }
    }

    static boolean tooMany() {
        return failures > MAX_TOLD;
    }

    static void end() {
        System.out.println(answers + " answers, " + failures + " of them not as due");
        if (failures != 0) {
            System.exit(1);
        }
    }

    private static void endLate() {
        try {
            Thread.sleep(1000L * MAX_SECONDS);
        } catch (InterruptedException stopped) {
            return;
        }
        System.out.println(words + ": no end after " + MAX_SECONDS + " seconds");
        Runtime.getRuntime().halt(1);
    }
}

/** Counts what is not as due; a test ends with done(), which tells it by the exit code. */
final class Check {
    /** A call that is expected to throw. */
    interface Call {
        long answer();
    }

    private static int asked = 0;
    private static int wrong = 0;
    private static String about = "";

    private Check() {
    }

    /** What the next answers are about; it is told with each that is wrong. */
    static void about(String subject) {
        about = subject + ": ";
    }

    static void due(String what, long got, long want) {
        asked++;
        if (got != want) {
            wrong++;
            System.out.println(about + what + " answered " + got + ", due is " + want);
        }
    }

    static void due(String what, boolean got, boolean want) {
        due(what, got ? 1 : 0, want ? 1 : 0);
    }

    static void due(String what, String got, String want) {
        asked++;
        if (!got.equals(want)) {
            wrong++;
            System.out.println(about + what + " answered " + got + ", due is " + want);
        }
    }

    /** The first properties of a task, in the order of task(). */
    static void task(String what, ProbeLocks x, int task, int... due) {
        for (int i = 0; i < due.length; i++) {
            due(what + ", task(" + task + ", " + i + ")", x.task(task, i), due[i]);
        }
    }

    /** The first properties of a message, in the order of message(). */
    static void message(String what, ProbeLocks x, int k, int... due) {
        for (int i = 0; i < due.length; i++) {
            due(what + ", message(" + k + ", " + i + ")", x.message(k, i), due[i]);
        }
    }

    /** The first counts, in the order of told(). */
    static void told(String what, ProbeLocks x, int... due) {
        for (int i = 0; i < due.length; i++) {
            due(what + ", told(" + i + ")", x.told(i), due[i]);
        }
    }

    /** The deadlock that was found last. */
    static void latest(String what, ProbeLocks x, int ring, int victim, int initiator) {
        due(what + ", latest(0)", x.latest(0), ring);
        due(what + ", latest(1)", x.latest(1), victim);
        due(what + ", latest(2)", x.latest(2), initiator);
    }

    /** The tasks that wait, in their order, and that there is none behind them. */
    static void order(String what, ProbeLocks x, int... due) {
        for (int k = 0; k < due.length; k++) {
            due(what + ", waiting(" + k + ")", x.waiting(k), due[k]);
        }
        due(what + ", waiting(" + due.length + ")", x.waiting(due.length), ProbeLocks.NONE);
    }

    /** The answer, or the very class that is thrown: a subclass, as the machine throws, differs. */
    static String outcome(Call call) {
        try {
            return Long.toString(call.answer());
        } catch (RuntimeException e) {
            return e.getClass().getName();
        }
    }

    static void noThing(String what, Call call) {
        due(what, outcome(call), "java.lang.IndexOutOfBoundsException");
    }

    static void badValue(String what, Call call) {
        due(what, outcome(call), "java.lang.IllegalArgumentException");
    }

    static void badState(String what, Call call) {
        due(what, outcome(call), "java.lang.IllegalStateException");
    }

    /** Types a text, which the tests write out in one go. */
    static void type(ProbeLocks locks, String text) {
        for (int i = 0; i < text.length(); i++) {
            locks.type(text.charAt(i));
        }
    }

    static void script(ProbeLocks locks, String text) {
        locks.clearText();
        type(locks, text);
    }

    static void done(String name) {
        System.out.println(name + ": " + asked + " answers, " + wrong + " of them not as due");
        if (wrong != 0 || asked == 0) {
            System.exit(1);
        }
    }
}

/** Counts what is not as due; a test ends with done(), which tells it by the exit code. */
final class Check {
    /** A call that is expected to throw. */
    interface Call {
        long answer();
    }

    private static int asked = 0;
    private static int wrong = 0;

    private Check() {
    }

    static void due(String what, long got, long want) {
        asked++;
        if (got != want) {
            wrong++;
            System.out.println(what + " answered " + got + ", due is " + want);
        }
    }

    static void due(String what, boolean got, boolean want) {
        due(what, got ? 1 : 0, want ? 1 : 0);
    }

    static void due(String what, String got, String want) {
        asked++;
        if (!got.equals(want)) {
            wrong++;
            System.out.println(what + " answered " + got + ", due is " + want);
        }
    }

    /** The answer, or the very class that is thrown: a subclass, as the machine throws, differs. */
    static String outcome(Call call) {
        try {
            return Long.toString(call.answer());
        } catch (RuntimeException e) {
            return e.getClass().getName();
        }
    }

    static void noThing(String what, Call call) {
        due(what, outcome(call), "java.lang.IndexOutOfBoundsException");
    }

    static void badValue(String what, Call call) {
        due(what, outcome(call), "java.lang.IllegalArgumentException");
    }

    static void badState(String what, Call call) {
        due(what, outcome(call), "java.lang.IllegalStateException");
    }

    /** Types a text, which the tests write out in one go. */
    static void type(ProbeLocks locks, String text) {
        for (int i = 0; i < text.length(); i++) {
            locks.type(text.charAt(i));
        }
    }

    static void script(ProbeLocks locks, String text) {
        locks.clearText();
        type(locks, text);
    }

    static void done(String name) {
        System.out.println(name + ": " + asked + " answers, " + wrong + " of them not as due");
        if (wrong != 0 || asked == 0) {
            System.exit(1);
        }
    }
}

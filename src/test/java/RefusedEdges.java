/**
 * Each refused call: the exception that is listed for it, also where a later one applies too, and
 * that the call has changed nothing that can be seen, neither now nor by undoing nor by going on.
 */
final class RefusedEdges {
    interface Setup {
        ProbeLocks make();
    }

    interface Use {
        long on(ProbeLocks x);
    }

    private static final Setup FRESH = ProbeLocks::new;
    private static final Setup RICH = Make::rich;
    private static final Setup FULL = Make::full;

    /** Numbers that are no task and no resource anywhere; shifts take 32 for 0 and 33 for 1. */
    private static final int[] NOWHERE = {
        Integer.MIN_VALUE, -32, -31, -2, 16, 17, 31, 32, 33, 64, 256, Integer.MAX_VALUE
    };
    /** No task of the rich manager, the finished one among them. */
    private static final int[] NO_TASK = {Integer.MIN_VALUE, -32, -1, 4, 7, 9, 10, 16, 32, 64, Integer.MAX_VALUE};
    /** No resource of the rich manager. */
    private static final int[] NO_RESOURCE = {Integer.MIN_VALUE, -32, -1, 6, 15, 16, 32, 64, Integer.MAX_VALUE};

    private RefusedEdges() {
    }

    static void all() {
        addResource();
        resource();
        overlap();
        create();
        request();
        release();
        finish();
        abort();
        restart();
        task();
        wouldHappen();
        settings();
        probe();
        deliver();
        message();
        told();
        shortestCycle();
        latest();
        type();
        run();
        undo();
    }

    private static void refused(Setup setup, String call, String exception, Use use) {
        ProbeLocks x = setup.make();
        ProbeLocks y = setup.make();
        ProbeLocks twin = setup.make();
        ProbeLocks other = setup.make();
        Check.due(call, Check.outcome(() -> use.on(x)), "java.lang." + exception);
        Check.due(call + ", once more", Check.outcome(() -> use.on(x)), "java.lang." + exception);
        Check.outcome(() -> use.on(y));
        Check.due(call + " changes nothing", View.back(x), View.back(twin));
        Check.due(call + " changes nothing for later", View.onward(y), View.onward(other));
    }

    private static void noThing(Setup setup, String call, Use use) {
        refused(setup, call, "IndexOutOfBoundsException", use);
    }

    private static void badValue(Setup setup, String call, Use use) {
        refused(setup, call, "IllegalArgumentException", use);
    }

    private static void badState(Setup setup, String call, Use use) {
        refused(setup, call, "IllegalStateException", use);
    }

    private static void addResource() {
        Doc.promise(2, "Throws `IndexOutOfBoundsException` if parent is neither NONE nor a resource");
        for (int p : NOWHERE) {
            noThing(FRESH, "new: addResource(" + p + ")", x -> x.addResource(p));
            noThing(RICH, "addResource(" + p + ")", x -> x.addResource(p));
            noThing(FULL, "16 resources, but first: addResource(" + p + ")", x -> x.addResource(p));
        }
        noThing(FRESH, "no resource yet: addResource(0)", x -> x.addResource(0));
        noThing(RICH, "its own number: addResource(6)", x -> x.addResource(6));
        noThing(RICH, "addResource(15)", x -> x.addResource(15));
        Doc.promise(2, "Throws `IllegalStateException` if there are 16 resources");
        badState(FULL, "addResource(NONE)", x -> x.addResource(ProbeLocks.NONE));
        badState(FULL, "addResource(0)", x -> x.addResource(0));
        badState(FULL, "addResource(15)", x -> x.addResource(15));
    }

    private static void resource() {
        Doc.promise(4, "Throws `IndexOutOfBoundsException` if there is no such resource");
        noThing(FRESH, "new: resource(0, 0)", x -> x.resource(0, 0));
        for (int r : NO_RESOURCE) {
            for (int what = 0; what <= 5; what++) {
                int w = what;
                noThing(RICH, "resource(" + r + ", " + w + ")", x -> x.resource(r, w));
            }
            noThing(RICH, "first: resource(" + r + ", -1)", x -> x.resource(r, -1));
        }
        noThing(FULL, "resource(16, 0)", x -> x.resource(16, 0));
        noThing(FULL, "resource(-1, 0)", x -> x.resource(-1, 0));
        Doc.promise(4, "Throws `IllegalArgumentException` if what is not 0 to 4");
        for (int what : new int[] {Integer.MIN_VALUE, -1, 5, 6, 32, Integer.MAX_VALUE}) {
            badValue(RICH, "resource(0, " + what + ")", x -> x.resource(0, what));
            badValue(RICH, "resource(5, " + what + ")", x -> x.resource(5, what));
        }
    }

    private static void overlap() {
        Doc.promise(5, "Throws `IndexOutOfBoundsException` if one of them does not exist");
        noThing(FRESH, "new: overlap(0, 0)", x -> x.overlap(0, 0) ? 1 : 0);
        for (int r : NO_RESOURCE) {
            noThing(RICH, "overlap(" + r + ", 0)", x -> x.overlap(r, 0) ? 1 : 0);
            noThing(RICH, "overlap(0, " + r + ")", x -> x.overlap(0, r) ? 1 : 0);
            noThing(RICH, "the same: overlap(" + r + ", " + r + ")", x -> x.overlap(r, r) ? 1 : 0);
        }
        noThing(FULL, "overlap(15, 16)", x -> x.overlap(15, 16) ? 1 : 0);
        noThing(FULL, "overlap(16, 15)", x -> x.overlap(16, 15) ? 1 : 0);
    }

    private static void create() {
        Doc.promise(6, "Throws `IllegalArgumentException` if cost is not 1 to 99");
        for (int cost : new int[] {Integer.MIN_VALUE, -99, -1, 0, 100, 101, 257, Integer.MAX_VALUE}) {
            badValue(FRESH, "new: create(" + cost + ")", x -> x.create(cost));
            badValue(RICH, "create(" + cost + ")", x -> x.create(cost));
            badValue(FULL, "10 tasks, but first: create(" + cost + ")", x -> x.create(cost));
        }
        Doc.promise(6, "Throws `IllegalStateException` if there are 10 tasks");
        for (int cost : new int[] {1, 50, 99}) {
            badState(FULL, "create(" + cost + ")", x -> x.create(cost));
        }
        badState(() -> Make.of("t1 t1 t1 t1 t1 t1 t1 t1 t1 t1 a0 a9"), "aborted ones count: create(1)", x -> x.create(1));
    }

    private static void request() {
        Doc.promise(7, "Throws `IndexOutOfBoundsException` if there is no such task or resource");
        noThing(FRESH, "new: request(0, 0)", x -> x.request(0, 0));
        for (int t : NO_TASK) {
            noThing(RICH, "request(" + t + ", 0)", x -> x.request(t, 0));
            noThing(RICH, "neither: request(" + t + ", 6)", x -> x.request(t, 6));
        }
        for (int r : NO_RESOURCE) {
            noThing(RICH, "request(5, " + r + ")", x -> x.request(5, r));
            noThing(RICH, "it waits, but first: request(1, " + r + ")", x -> x.request(1, r));
            noThing(RICH, "it is aborted, but first: request(3, " + r + ")", x -> x.request(3, r));
        }
        noThing(FULL, "it waits, but first: request(0, 16)", x -> x.request(0, 16));
        Doc.promise(7, "Throws `IllegalStateException` if the task is not running");
        for (int resource = 0; resource < 6; resource++) {
            int r = resource;
            badState(RICH, "it waits: request(1, " + r + ")", x -> x.request(1, r));
            badState(RICH, "it waits with nothing: request(6, " + r + ")", x -> x.request(6, r));
            badState(RICH, "it is aborted: request(3, " + r + ")", x -> x.request(3, r));
        }
    }

    private static void release() {
        Doc.promise(8, "Throws `IndexOutOfBoundsException` if there is no such task or resource");
        noThing(FRESH, "new: release(0, 0)", x -> x.release(0, 0));
        for (int t : NO_TASK) {
            noThing(RICH, "release(" + t + ", 4)", x -> x.release(t, 4));
            noThing(RICH, "neither: release(" + t + ", 6)", x -> x.release(t, 6));
        }
        for (int r : NO_RESOURCE) {
            noThing(RICH, "release(0, " + r + ")", x -> x.release(0, r));
            noThing(RICH, "release(3, " + r + ")", x -> x.release(3, r));
        }
        Doc.promise(8, "Throws `IllegalStateException` if it does not hold this resource");
        badState(RICH, "another one holds it: release(0, 2)", x -> x.release(0, 2));
        badState(RICH, "nobody holds it: release(0, 1)", x -> x.release(0, 1));
        badState(RICH, "it waits for it: release(1, 2)", x -> x.release(1, 2));
        badState(RICH, "it holds what is below: release(1, 1)", x -> x.release(1, 1));
        badState(RICH, "it held it: release(3, 5)", x -> x.release(3, 5));
        badState(RICH, "it holds nothing: release(5, 0)", x -> x.release(5, 0));
        badState(() -> Make.of("r-1 r0 r1 t1 q0,0"), "it holds what is above: release(0, 1)", x -> x.release(0, 1));
        badState(() -> Make.of("r-1 r0 r1 t1 q0,0"), "it holds what is above: release(0, 2)", x -> x.release(0, 2));
        badState(() -> Make.of("r-1 t1 q0,0 l0,0"), "not any more: release(0, 0)", x -> x.release(0, 0));
    }

    private static void finish() {
        Doc.promise(9, "Throws `IndexOutOfBoundsException` if there is no such task");
        noThing(FRESH, "new: finish(0)", x -> x.finish(0));
        for (int t : NO_TASK) {
            noThing(RICH, "finish(" + t + ")", x -> x.finish(t));
        }
        noThing(FULL, "finish(10)", x -> x.finish(10));
        Doc.promise(9, "Throws `IllegalStateException` if it is not running");
        badState(RICH, "it waits: finish(1)", x -> x.finish(1));
        badState(RICH, "it waits with nothing: finish(6)", x -> x.finish(6));
        badState(RICH, "it is aborted: finish(3)", x -> x.finish(3));
        badState(FULL, "it waits: finish(9)", x -> x.finish(9));
    }

    private static void abort() {
        Doc.promise(10, "Throws `IndexOutOfBoundsException` if there is no such task");
        noThing(FRESH, "new: abort(0)", x -> x.abort(0));
        for (int t : NO_TASK) {
            noThing(RICH, "abort(" + t + ")", x -> x.abort(t));
        }
        noThing(FULL, "abort(10)", x -> x.abort(10));
        Doc.promise(10, "Throws `IllegalStateException` if it is aborted");
        badState(RICH, "abort(3)", x -> x.abort(3));
        badState(() -> Make.of("t1 a0 b0 a0"), "aborted again: abort(0)", x -> x.abort(0));
    }

    private static void restart() {
        Doc.promise(11, "Throws `IndexOutOfBoundsException` if there is no such task");
        noThing(FRESH, "new: restart(0)", x -> x.restart(0));
        for (int t : NO_TASK) {
            noThing(RICH, "restart(" + t + ")", x -> x.restart(t));
        }
        noThing(FULL, "restart(10)", x -> x.restart(10));
        Doc.promise(11, "Throws `IllegalStateException` if it is not aborted");
        badState(RICH, "it runs: restart(0)", x -> x.restart(0));
        badState(RICH, "it waits: restart(1)", x -> x.restart(1));
        badState(() -> Make.of("t1 a0 b0"), "it runs again: restart(0)", x -> x.restart(0));
    }

    private static void task() {
        Doc.promise(13, "Throws `IndexOutOfBoundsException` if there is no such task");
        noThing(FRESH, "new: task(0, 0)", x -> x.task(0, 0));
        for (int t : NO_TASK) {
            for (int what = 0; what <= 7; what++) {
                int w = what;
                noThing(RICH, "task(" + t + ", " + w + ")", x -> x.task(t, w));
            }
            noThing(RICH, "first: task(" + t + ", -1)", x -> x.task(t, -1));
        }
        noThing(FULL, "task(10, 0)", x -> x.task(10, 0));
        Doc.promise(13, "Throws `IllegalArgumentException` if what is not 0 to 6");
        for (int what : new int[] {Integer.MIN_VALUE, -1, 7, 8, 32, Integer.MAX_VALUE}) {
            for (int t : new int[] {0, 1, 3}) {
                badValue(RICH, "task(" + t + ", " + what + ")", x -> x.task(t, what));
            }
        }
    }

    private static void wouldHappen() {
        Doc.promise(15, "Throws `IndexOutOfBoundsException` if there is no such task or resource");
        noThing(FRESH, "new: wouldHappen(0, 0)", x -> x.wouldHappen(0, 0));
        for (int t : NO_TASK) {
            noThing(RICH, "wouldHappen(" + t + ", 0)", x -> x.wouldHappen(t, 0));
            noThing(RICH, "neither: wouldHappen(" + t + ", 6)", x -> x.wouldHappen(t, 6));
        }
        for (int r : NO_RESOURCE) {
            noThing(RICH, "wouldHappen(5, " + r + ")", x -> x.wouldHappen(5, r));
            noThing(RICH, "it waits, but first: wouldHappen(1, " + r + ")", x -> x.wouldHappen(1, r));
            noThing(RICH, "it is aborted, but first: wouldHappen(3, " + r + ")", x -> x.wouldHappen(3, r));
        }
        Doc.promise(15, "Throws `IllegalStateException` if the task is not running");
        for (int resource = 0; resource < 6; resource++) {
            int r = resource;
            badState(RICH, "it waits: wouldHappen(1, " + r + ")", x -> x.wouldHappen(1, r));
            badState(RICH, "it is aborted: wouldHappen(3, " + r + ")", x -> x.wouldHappen(3, r));
        }
    }

    private static void settings() {
        int[] wrong = {Integer.MIN_VALUE, -1, 3, 4, 256, Integer.MAX_VALUE};
        Doc.promise(16, "Throws `IllegalArgumentException` if policy is out of range");
        for (int v : wrong) {
            badValue(FRESH, "new: setPolicy(" + v + ")", x -> x.setPolicy(v));
            badValue(RICH, "setPolicy(" + v + ")", x -> x.setPolicy(v));
        }
        Doc.promise(17, "Throws `IllegalArgumentException` if rule is out of range");
        for (int v : wrong) {
            badValue(FRESH, "new: setRule(" + v + ")", x -> x.setRule(v));
            badValue(RICH, "setRule(" + v + ")", x -> x.setRule(v));
        }
        Doc.promise(18, "Throws `IllegalArgumentException` if hops is out of range");
        for (int v : new int[] {Integer.MIN_VALUE, -1, 0, 10, 11, 257, Integer.MAX_VALUE}) {
            badValue(FRESH, "new: setBudget(" + v + ")", x -> x.setBudget(v));
            badValue(RICH, "setBudget(" + v + ")", x -> x.setBudget(v));
        }
    }

    private static void probe() {
        Doc.promise(19, "Throws `IndexOutOfBoundsException` if there is no such task");
        noThing(FRESH, "new: probe(0)", x -> x.probe(0));
        for (int t : NO_TASK) {
            noThing(RICH, "probe(" + t + ")", x -> x.probe(t));
        }
        noThing(FULL, "probe(10)", x -> x.probe(10));
        Doc.promise(19, "Throws `IllegalStateException` if it is not waiting");
        badState(RICH, "it runs: probe(0)", x -> x.probe(0));
        badState(RICH, "it runs with nothing: probe(5)", x -> x.probe(5));
        badState(RICH, "it is aborted: probe(3)", x -> x.probe(3));
    }

    private static void deliver() {
        Doc.promise(20, "Throws `IllegalArgumentException` if n is out of range");
        for (int n : new int[] {Integer.MIN_VALUE, -1, 0, 100, 101, 257, Integer.MAX_VALUE}) {
            badValue(FRESH, "new: deliver(" + n + ")", x -> x.deliver(n));
            badValue(RICH, "deliver(" + n + ")", x -> x.deliver(n));
            badValue(FULL, "full: deliver(" + n + ")", x -> x.deliver(n));
        }
    }

    private static void message() {
        Doc.promise(22, "Throws `IllegalArgumentException` if what is not 0 to 4");
        for (int what : new int[] {Integer.MIN_VALUE, -1, 5, 6, 32, Integer.MAX_VALUE}) {
            badValue(RICH, "message(0, " + what + ")", x -> x.message(0, what));
            badValue(RICH, "no such message, but first: message(3, " + what + ")", x -> x.message(3, what));
            badValue(RICH, "no such message, but first: message(-1, " + what + ")", x -> x.message(-1, what));
            badValue(FRESH, "no message, but first: message(0, " + what + ")", x -> x.message(0, what));
        }
    }

    private static void told() {
        Doc.promise(23, "Throws `IllegalArgumentException` if what is not 0 to 7");
        for (int what : new int[] {Integer.MIN_VALUE, -1, 8, 9, 32, Integer.MAX_VALUE}) {
            badValue(FRESH, "new: told(" + what + ")", x -> x.told(what));
            badValue(RICH, "told(" + what + ")", x -> x.told(what));
        }
    }

    private static void shortestCycle() {
        Doc.promise(26, "Throws `IndexOutOfBoundsException` if there is no such task");
        noThing(FRESH, "new: shortestCycle(0)", x -> x.shortestCycle(0));
        for (int t : NO_TASK) {
            noThing(RICH, "shortestCycle(" + t + ")", x -> x.shortestCycle(t));
        }
        noThing(FULL, "shortestCycle(10)", x -> x.shortestCycle(10));
    }

    private static void latest() {
        Doc.promise(28, "Throws `IllegalArgumentException` if what is not 0 to 2");
        for (int what : new int[] {Integer.MIN_VALUE, -1, 3, 4, 32, Integer.MAX_VALUE}) {
            badValue(FRESH, "none found, but first: latest(" + what + ")", x -> x.latest(what));
            badValue(RICH, "latest(" + what + ")", x -> x.latest(what));
        }
    }

    private static void type() {
        Doc.promise(31, "Throws `IllegalArgumentException` if c is out of range");
        for (int c : new int[] {Integer.MIN_VALUE, -1, 0, 10, 31, 127, 128, 255, 256 + 't', 65536 + 't', Integer.MAX_VALUE}) {
            badValue(FRESH, "new: type(" + c + ")", x -> x.type(c));
            badValue(RICH, "type(" + c + ")", x -> x.type(c));
            badValue(FULL, "120 characters, but first: type(" + c + ")", x -> x.type(c));
        }
        Doc.promise(31, "Throws `IllegalStateException` if the text has 120 characters");
        for (int c : new int[] {32, 't', ';', 126}) {
            badState(FULL, "type(" + c + ")", x -> x.type(c));
        }
    }

    private static ProbeLocks withText(String text) {
        ProbeLocks x = Make.rich();
        Check.script(x, text);
        return x;
    }

    private static void run() {
        Doc.promise(34, "Throws `IllegalArgumentException` if the text has a fault");
        String[] faulty = {"t", "t1", "t1;f", "t1;t2;q0", "q0,", "q0,1", "t1;x", "t1;;", ";", " ", "t1; ", "t123;", "z1;t1;"};
        for (String text : faulty) {
            badValue(() -> withText(text), "run() of '" + text + "'", x -> x.run());
        }
        badValue(RICH, "run()", x -> x.run());
    }

    private static void undo() {
        Doc.promise(35, "Throws `IllegalStateException` if there is none");
        badState(FRESH, "new: undo()", x -> x.undo());
        badState(() -> Make.of("t1 u"), "after the only one: undo()", x -> x.undo());
        badState(() -> Make.of("t1 t1 t1 t1 t1 t1 t1 u u u u u"), "after the fifth: undo()", x -> x.undo());
    }
}

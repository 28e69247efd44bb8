/** Promises 16 to 23 and 28: the settings, probes, deliveries, messages, told and latest. */
public final class ProbesTest {
    public static void main(String[] args) {
        settings();
        refused();
        ringOfThree();
        hopsRunOut();
        staleMessages();
        staleByNumber();
        staleInOneDelivery();
        endsOnRunningTask();
        endsOnPath();
        victims();
        fullMail();
        spentOffCycle();
        undoneProbes();
        Check.done("ProbesTest");
    }

    /** Task t holds resource t and waits for resource t + 1, the last one for resource 0. */
    private static ProbeLocks ring(int length) {
        ProbeLocks x = new ProbeLocks();
        for (int t = 0; t < length; t++) {
            x.addResource(ProbeLocks.NONE);
            x.create(50 - t);
            x.request(t, t);
        }
        for (int t = 0; t < length; t++) {
            x.request(t, (t + 1) % length);
        }
        return x;
    }

    /** Each task holds a leaf and waits for the root, so that each waits for all others. */
    static ProbeLocks crowd(int size) {
        ProbeLocks x = new ProbeLocks();
        x.addResource(ProbeLocks.NONE);
        for (int t = 0; t < size; t++) {
            x.addResource(0);
            x.create(10 + t);
            x.request(t, t + 1);
        }
        for (int t = 0; t < size; t++) {
            x.request(t, 0);
        }
        return x;
    }

    private static void told(String what, ProbeLocks x, int... due) {
        for (int i = 0; i < due.length; i++) {
            Check.due("23: " + what + ", told " + i, x.told(i), due[i]);
        }
    }

    private static void message(String what, ProbeLocks x, int k, int... due) {
        for (int i = 0; i < due.length; i++) {
            Check.due("22: " + what + ", message " + k + " property " + i, x.message(k, i), due[i]);
        }
    }

    private static void latest(String what, ProbeLocks x, int ring, int victim, int initiator) {
        Check.due("28: " + what + ", cycle", x.latest(0), ring);
        Check.due("28: " + what + ", victim", x.latest(1), victim);
        Check.due("28: " + what + ", initiator", x.latest(2), initiator);
    }

    private static void settings() {
        ProbeLocks x = new ProbeLocks();
        int[] wrong = {-1, 3, Integer.MIN_VALUE, Integer.MAX_VALUE};
        for (int v : wrong) {
            Check.badValue("16: policy", () -> x.setPolicy(v));
            Check.badValue("17: rule", () -> x.setRule(v));
        }
        int[] budgets = {-1, 0, 10, Integer.MIN_VALUE, Integer.MAX_VALUE};
        for (int v : budgets) {
            Check.badValue("18: budget", () -> x.setBudget(v));
        }
        Check.badState("a refused call leaves no record", () -> x.undo());
        Check.due("16: policy", x.setPolicy(2), 0);
        Check.due("16: policy", x.setPolicy(1), 2);
        Check.due("17: rule", x.setRule(2), 0);
        Check.due("17: rule", x.setRule(0), 2);
        Check.due("18: budget", x.setBudget(9), 4);
        x.undo();
        Check.due("18: undone", x.setBudget(1), 4);
        x.undo();
        x.undo();
        Check.due("17: undone", x.setRule(1), 2);
        x.undo();
        x.undo();
        x.undo();
        Check.due("16: undone", x.setPolicy(0), 2);
    }

    private static void refused() {
        ProbeLocks x = ring(2);
        x.create(1);
        long before = x.checksum();
        int[] none = {-1, 3, 10, 32, Integer.MIN_VALUE, Integer.MAX_VALUE};
        for (int t : none) {
            Check.noThing("19: task", () -> x.probe(t));
        }
        Check.badState("19: it runs", () -> x.probe(2));
        int[] wrong = {-1, 0, 100, Integer.MIN_VALUE, Integer.MAX_VALUE};
        for (int n : wrong) {
            Check.badValue("20: how many", () -> x.deliver(n));
        }
        int[] whats = {-1, 8, Integer.MIN_VALUE, Integer.MAX_VALUE};
        for (int what : whats) {
            Check.badValue("22: what", () -> x.message(0, what));
            Check.badValue("23: what", () -> x.told(what));
            Check.badValue("28: what", () -> x.latest(what));
        }
        Check.badValue("22: what is 5", () -> x.message(0, 5));
        Check.badValue("28: what is 3", () -> x.latest(3));
        Check.due("a refused call changes nothing", x.checksum(), before);
        Check.due("22: no message", x.message(0, 0), -1);
        latest("none found", x, -1, -1, -1);
        Check.due("20: nothing to deliver", x.deliver(99), 0);
    }

    private static void ringOfThree() {
        ProbeLocks x = ring(3);
        Check.due("19: probe", x.probe(1), 1);
        message("the first", x, 0, 1, 2, 3, 1, 2);
        Check.due("22: no second", x.message(1, 0), -1);
        Check.due("22: a negative one", x.message(-1, 0), -1);
        Check.due("19: probe again", x.probe(0), 2);
        message("another", x, 1, 0, 1, 3, 1, 1);
        Check.due("20: deliver", x.deliver(1), 1);
        message("moved up", x, 0, 0, 1, 3, 1, 1);
        message("sent on", x, 1, 1, 0, 2, 2, 6);
        Check.due("20: deliver", x.deliver(2), 2);
        message("one hop from home", x, 0, 0, 2, 2, 2, 3);
        message("on its way home", x, 1, 1, 1, 1, 3, 7);
        told("before", x, 5, 0, 0, 0, 0, 0, 0, 3);
        Check.due("20: deliver", x.deliver(2), 2);
        latest("found", x, 7, 2, 1);
        told("after", x, 6, 0, 0, 0, 1, 0, 1, 4);
        Check.due("20: the victim is aborted", x.task(2, 0), 2);
        Check.due("20: and it is settled", x.task(1, 3), 6);
        Check.due("20: the rest is stale", x.deliver(99), 1);
        told("at the end", x, 6, 0, 1, 0, 1, 0, 1, 4);
        Check.due("21: none left", x.messages(), 0);
    }

    private static void hopsRunOut() {
        ProbeLocks x = ring(5);
        Check.due("20: budget 4 is too small for 5", x.probe(0), 1);
        Check.due("20: deliver", x.deliver(99), 4);
        told("missed", x, 4, 0, 0, 1, 0, 1, 0, 5);
        latest("missed", x, -1, -1, -1);
        x.setBudget(5);
        x.probe(0);
        x.setBudget(1);
        Check.due("18: sent messages keep their hops", x.message(0, 2), 4);
        Check.due("20: budget 5 is enough", x.deliver(99), 5);
        told("found", x, 9, 0, 0, 1, 1, 1, 1, 6);
        latest("found", x, 31, 4, 0);

        ProbeLocks pair = ring(2);
        pair.setBudget(1);
        pair.probe(0);
        Check.due("19: no hops left", pair.message(0, 2), 0);
        pair.deliver(1);
        told("missed by budget 1", pair, 1, 0, 0, 1, 0, 1);

        ProbeLocks all = ring(9);
        all.setBudget(9);
        all.probe(3);
        all.deliver(8);
        message("the longest path", all, 0, 3, 3, 0, 9, 511);
        Check.due("20: home without hops left", all.deliver(1), 1);
        latest("the longest", all, 511, 8, 3);
        ProbeLocks ten = ring(10);
        ten.setBudget(9);
        ten.probe(3);
        Check.due("20: ten are too many", ten.deliver(99), 9);
        told("missed", ten, 9, 0, 0, 1, 0, 1);
    }

    private static void staleMessages() {
        ProbeLocks x = ring(3);
        x.probe(0);
        x.deliver(1);
        x.abort(2);
        Check.due("20: deliver", x.deliver(5), 1);
        told("the last one waits no more for the target", x, 2, 0, 1, 0, 0, 0);

        ProbeLocks first = ring(4);
        first.probe(0);
        first.deliver(1);
        first.release(1, 1);
        Check.due("task 0 has it", first.task(0, 0), 0);
        first.deliver(1);
        told("the first one does not wait any more", first, 2, 0, 1, 0, 0, 0);

        ProbeLocks gone = ring(3);
        gone.probe(0);
        gone.abort(0);
        gone.restart(0);
        gone.finish(0);
        gone.deliver(1);
        told("the initiator is gone", gone, 1, 0, 1, 0, 0, 0);
    }

    private static void staleByNumber() {
        ProbeLocks x = ring(2);
        x.probe(0);
        x.abort(0);
        x.restart(0);
        x.finish(0);
        Check.due("6: a new task with the old number", x.create(7), 0);
        Check.due("7: it waits for the same one", x.request(0, 1), 1);
        x.deliver(1);
        told("by the number alone, not stale", x, 1, 0, 0, 0, 0, 0);
    }

    /** Both messages are under way when the first one breaks the ring. */
    private static void staleInOneDelivery() {
        ProbeLocks x = ring(2);
        x.probe(0);
        x.probe(1);
        Check.due("20: deliver", x.deliver(99), 4);
        told("one found, the other one stale", x, 4, 0, 1, 0, 1, 0, 1, 3);
        latest("the first one found it", x, 3, 1, 0);
        ProbeLocks crowd = crowd(3);
        crowd.setBudget(2);
        crowd.probe(0);
        crowd.probe(1);
        // 0 finds {0, 1} and aborts 0; what is under way over 0 is stale; 1 and 2 are still in a ring.
        crowd.deliver(99);
        told("two found, the six between them stale", crowd, 12, 0, 6, 0, 2, 0, 2, 4);
        latest("the second one", crowd, 6, 1, 1);
    }

    private static void endsOnRunningTask() {
        ProbeLocks x = new ProbeLocks();
        x.addResource(ProbeLocks.NONE);
        x.create(1);
        x.create(1);
        x.request(0, 0);
        x.request(1, 0);
        Check.due("19: probe", x.probe(1), 1);
        Check.due("20: deliver", x.deliver(9), 1);
        told("it ended", x, 1, 0, 0, 0, 0, 0);
        x.setBudget(1);
        x.probe(1);
        x.deliver(1);
        told("it ended though no hops were left", x, 2, 0, 0, 0, 0, 0);
    }

    /** Task 2 waits for the ring of 0 and 1, and its message goes round into its own path. */
    private static void endsOnPath() {
        ProbeLocks x = ring(2);
        x.create(1);
        x.request(2, 0);
        x.probe(2);
        Check.due("20: deliver", x.deliver(99), 3);
        told("it met its path", x, 3, 0, 0, 0, 0, 0);
        Check.due("25: it is stuck all the same", x.stuck(), 7);
        x.setBudget(3);
        x.probe(2);
        x.deliver(99);
        told("no hops left when it meets its path", x, 6, 0, 0, 0, 0, 0);
    }

    /** Costs 5, 3, 3, 9; held resources 1, 1, 2, 3. */
    private static ProbeLocks forVictims(int rule) {
        ProbeLocks x = new ProbeLocks();
        int[] costs = {5, 3, 3, 9};
        for (int r = 0; r < 7; r++) {
            x.addResource(ProbeLocks.NONE);
        }
        for (int t = 0; t < 4; t++) {
            x.create(costs[t]);
            x.request(t, t);
        }
        x.request(3, 4);
        x.request(3, 5);
        x.request(2, 6);
        for (int t = 0; t < 4; t++) {
            x.request(t, (t + 1) % 4);
        }
        x.setRule(rule);
        x.probe(2);
        x.deliver(99);
        return x;
    }

    private static void victims() {
        latest("least cost, the youngest of two", forVictims(0), 15, 2, 2);
        latest("the youngest", forVictims(1), 15, 3, 2);
        latest("fewest held, the youngest of two", forVictims(2), 15, 1, 2);
        ProbeLocks x = forVictims(0);
        Check.due("28: undo does not change it", x.undo() + x.latest(1), 4 + 2);

        // The number says nothing about the age: task 0 is the youngest here.
        ProbeLocks young = new ProbeLocks();
        young.addResource(ProbeLocks.NONE);
        young.addResource(ProbeLocks.NONE);
        young.create(4);
        young.create(4);
        young.finish(0);
        young.create(4);
        young.request(0, 0);
        young.request(1, 1);
        young.request(0, 1);
        young.request(1, 0);
        young.probe(1);
        young.deliver(9);
        latest("the youngest has the lower number", young, 3, 0, 1);
    }

    private static void fullMail() {
        ProbeLocks x = crowd(10);
        for (int t = 0; t < 4; t++) {
            Check.due("19: nine each", x.probe(t), 9 * (t + 1));
        }
        Check.due("19: forty at most", x.probe(4), 40);
        told("the rest is lost", x, 40, 5, 0, 0);
        message("the last one that was kept", x, 39, 4, 3, 3, 1, 16);
        Check.due("22: no more", x.message(40, 0), -1);
        Check.due("19: all lost", x.probe(5), 40);
        told("all lost", x, 40, 14, 0, 0);
        Check.due("20: one leaves, one comes", x.deliver(1), 1);
        Check.due("21: still full", x.messages(), 40);
        told("the delivered one does not count", x, 41, 22, 0, 0);
        message("the first of those sent on", x, 39, 0, 0, 2, 2, 3);
        x.undo();
        message("undone, the last", x, 39, 4, 3, 3, 1, 16);
        message("undone, the first, whose row was used again", x, 0, 0, 1, 3, 1, 1);
        told("counts are not undone", x, 41, 22, 0, 0);

        ProbeLocks y = crowd(10);
        y.setBudget(1);
        y.probe(5);
        Check.script(y, "d1;p1;p1;p1;p1;");
        y.run();
        message("the row of the delivered one is used again", y, 39, 1, 5, 0, 1, 2);
        y.undo();
        Check.due("35: undone", y.messages(), 9);
        message("undone, the path too", y, 0, 5, 0, 0, 1, 32);
    }

    /** 3 waits for 2, which waits for 1, which waits for 0, which runs: spent, but nothing is missed. */
    private static void spentOffCycle() {
        ProbeLocks x = new ProbeLocks();
        for (int t = 0; t < 4; t++) {
            x.addResource(ProbeLocks.NONE);
            x.create(1);
            x.request(t, t);
        }
        for (int t = 1; t < 4; t++) {
            x.request(t, t - 1);
        }
        x.setBudget(2);
        x.probe(3);
        Check.due("20: deliver", x.deliver(9), 2);
        told("spent, not missed", x, 2, 0, 0, 1, 0, 0);
        x.request(0, 1);
        x.probe(3);
        x.deliver(9);
        told("3 is stuck, but not on a cycle", x, 4, 0, 0, 2, 0, 0);
    }

    private static void undoneProbes() {
        ProbeLocks x = ring(3);
        x.probe(0);
        long before = x.checksum();
        x.deliver(3);
        Check.due("20: found", x.told(4), 1);
        x.undo();
        Check.due("35: undone", x.messages(), 1);
        message("undone", x, 0, 0, 1, 3, 1, 1);
        Check.due("35: all wait again", x.onCycles(), 7);
        Check.due("36: as before, but for the oldest record that was dropped", x.checksum(), before - 1);
        Check.due("23: it is still told", x.told(4), 1);
        latest("it is still told", x, 7, 2, 0);
        x.undo();
        Check.due("19: undone", x.messages(), 0);
    }
}

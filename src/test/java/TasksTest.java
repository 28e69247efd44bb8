/** Promises 6 to 15: create, request under the three policies, release, finish, abort, restart, questions. */
public final class TasksTest {
    public static void main(String[] args) {
        create();
        refusedTasks();
        grantsAndWaits();
        treeRequests();
        waitOrDie();
        ageIsNotTheNumber();
        woundOrWait();
        woundAndWait();
        release();
        finish();
        abort();
        restart();
        settleInOrder();
        Check.done("TasksTest");
    }

    /** Root 0 over 1 and 2, and 3 alone; so many tasks of cost 1. */
    private static ProbeLocks manager(int tasks) {
        ProbeLocks x = new ProbeLocks();
        x.addResource(ProbeLocks.NONE);
        x.addResource(0);
        x.addResource(0);
        x.addResource(ProbeLocks.NONE);
        for (int t = 0; t < tasks; t++) {
            x.create(1);
        }
        return x;
    }

    private static void row(String what, ProbeLocks x, int task, int... due) {
        for (int i = 0; i < due.length; i++) {
            Check.due("13: " + what + ", task " + task + " property " + i, x.task(task, i), due[i]);
        }
    }

    private static void create() {
        ProbeLocks x = new ProbeLocks();
        for (int t = 0; t < 10; t++) {
            Check.due("6: create", x.create(t == 0 ? 99 : t), t);
            row("a new task", x, t, 0, t == 0 ? 99 : t, t + 1, 0, -1, 0, -1);
        }
        Check.due("12: tasks", x.tasks(), 0x3FF);
        Check.badState("6: 10 tasks", () -> x.create(1));
        Check.badValue("6: cost comes first", () -> x.create(0));
        Check.badValue("6: cost 100", () -> x.create(100));
        Check.badValue("6: a negative cost", () -> x.create(-5));
        x.finish(7);
        x.finish(3);
        Check.due("12: tasks", x.tasks(), 0x377);
        Check.due("6: the lowest free number", x.create(5), 3);
        row("its serial number is new", x, 3, 0, 5, 11);
        Check.due("6: then the next one", x.create(5), 7);
        x.undo();
        Check.due("6: undone", x.tasks(), 0x37F);
        x.create(6);
        row("undo brings the serial number back", x, 7, 0, 6, 12);
    }

    private static void refusedTasks() {
        ProbeLocks x = manager(2);
        x.request(0, 0);
        x.request(1, 1);
        long before = x.checksum();
        int[] none = {-1, 2, 10, 32, Integer.MIN_VALUE, Integer.MAX_VALUE};
        for (int t : none) {
            Check.noThing("7: task", () -> x.request(t, 0));
            Check.noThing("8: task", () -> x.release(t, 0));
            Check.noThing("9: task", () -> x.finish(t));
            Check.noThing("10: task", () -> x.abort(t));
            Check.noThing("11: task", () -> x.restart(t));
            Check.noThing("13: task", () -> x.task(t, 9));
            Check.noThing("15: task", () -> x.wouldHappen(t, 0));
        }
        int[] nothing = {-1, 4, 16, 32, Integer.MIN_VALUE, Integer.MAX_VALUE};
        for (int r : nothing) {
            Check.noThing("7: resource comes before the state", () -> x.request(1, r));
            Check.noThing("8: resource", () -> x.release(0, r));
            Check.noThing("15: resource comes before the state", () -> x.wouldHappen(1, r));
        }
        Check.badState("7: it waits", () -> x.request(1, 3));
        Check.badState("8: it does not hold it", () -> x.release(0, 1));
        Check.badState("9: it waits", () -> x.finish(1));
        Check.badState("11: it runs", () -> x.restart(0));
        Check.badState("11: it waits", () -> x.restart(1));
        Check.badState("15: it waits", () -> x.wouldHappen(1, 3));
        Check.badValue("13: what is 7", () -> x.task(0, 7));
        Check.badValue("13: what is -1", () -> x.task(0, -1));
        Check.due("a refused call changes nothing", x.checksum(), before);
        x.abort(1);
        Check.badState("7: it is aborted", () -> x.request(1, 3));
        Check.badState("9: it is aborted", () -> x.finish(1));
        Check.badState("10: it is aborted", () -> x.abort(1));
        Check.badState("15: it is aborted", () -> x.wouldHappen(1, 3));
    }

    private static void grantsAndWaits() {
        ProbeLocks x = manager(4);
        Check.due("15: it would be granted", x.wouldHappen(0, 1), 0);
        Check.due("7: granted", x.request(0, 1), 0);
        Check.due("7: granted", x.request(1, 2), 0);
        Check.due("15: nothing would happen", x.wouldHappen(0, 1), 0);
        Check.due("7: nothing happens", x.request(0, 1), 0);
        Check.due("23: nothing was granted then", x.told(7), 2);
        Check.due("15: it would wait", x.wouldHappen(2, 0), 1);
        Check.due("23: wouldHappen counts nothing", x.told(7), 2);
        Check.due("7: it waits", x.request(2, 0), 1);
        row("waits for both", x, 2, 1, 1, 3, 0, 0, 3, 0);
        Check.due("7: it waits too", x.request(3, 1), 1);
        row("waits for one", x, 3, 1, 1, 4, 0, 1, 1, 1);
        row("a holder", x, 0, 0, 1, 1, 2, -1, 0, -1);
        Check.due("7: policy 0 never aborts", x.told(6), 0);
        Check.due("14: first", x.waiting(0), 2);
        Check.due("14: second", x.waiting(1), 3);
        Check.due("14: no third", x.waiting(2), -1);
        Check.due("14: negative", x.waiting(-1), -1);
        Check.due("14: far", x.waiting(Integer.MAX_VALUE), -1);
        Check.due("7: what waits is passed by what is not in the way", x.request(0, 3), 0);
        x.undo();
        Check.due("7: undone", x.task(0, 3), 2);
        x.undo();
        Check.due("7: undone, it does not wait", x.task(3, 0), 0);
        Check.due("14: undone", x.waiting(1), -1);
    }

    private static void treeRequests() {
        ProbeLocks x = manager(2);
        x.request(0, 1);
        Check.due("7: the parent, nobody else in the way", x.request(0, 0), 0);
        Check.due("7: both are held", x.task(0, 3), 3);
        Check.due("7: below what it holds", x.request(0, 2), 0);
        Check.due("7: nothing happened", x.task(0, 3), 3);
        Check.due("7: another one waits below", x.request(1, 2), 1);
        x.release(0, 0);
        Check.due("8: settled: the other branch is free", x.task(1, 0), 0);
        Check.due("7: the parent, another one in the way", x.request(0, 0), 1);
        Check.due("7: it waits with what it holds", x.task(0, 3), 2);
        Check.due("7: not for itself", x.task(0, 5), 2);
        Check.due("7: a wait in a ring", x.request(1, 1), 1);
        Check.due("24: both on a cycle", x.onCycles(), 3);
    }

    private static void waitOrDie() {
        ProbeLocks x = manager(4);
        x.setPolicy(1);
        x.request(1, 1);
        x.request(2, 2);
        Check.due("15: older than all, would wait", x.wouldHappen(0, 0), 1);
        Check.due("15: younger, would be aborted", x.wouldHappen(3, 0), 2);
        x.request(3, 3);
        Check.due("7: older than all, waits", x.request(0, 3), 1);
        Check.due("15: what it holds itself is not in the way", x.wouldHappen(1, 0), 1);
        Check.due("7: younger than both", x.request(3, 0), 2);
        row("aborted", x, 3, 2, 1, 4, 0, -1, 0, -1);
        row("settled: what it held is granted", x, 0, 0, 1, 1, 8, -1, 0, -1);
        Check.due("23: aborted", x.told(6), 1);
        Check.due("23: granted", x.told(7), 4);
        x.undo();
        Check.due("7: undone", x.task(3, 3), 8);
        Check.due("23: counts are not undone", x.told(6), 1);
        Check.due("15: between two", x.wouldHappen(3, 1), 2);
        x.request(1, 0);
        Check.due("7: older than the other holder, waits", x.task(1, 0), 1);
        Check.due("7: it waits for the younger one", x.task(1, 5), 4);
        ProbeLocks between = manager(3);
        between.setPolicy(1);
        between.request(0, 1);
        between.request(2, 2);
        Check.due("15: older than one, younger than the other", between.wouldHappen(1, 0), 2);
        Check.due("7: older than one, younger than the other", between.request(1, 0), 2);
        Check.due("23: aborted itself alone", between.told(6), 1);
    }

    /** A new task 0 is younger than task 1: the age goes by the serial number. */
    private static void ageIsNotTheNumber() {
        for (int policy = 1; policy <= 2; policy++) {
            ProbeLocks x = manager(2);
            x.finish(0);
            x.create(1);
            x.setPolicy(policy);
            x.request(0, 3);
            Check.due("15: 1 is older than 0", x.wouldHappen(1, 3), policy == 1 ? 1 : 3);
            Check.due("7: 1 is older than 0", x.request(1, 3), policy == 1 ? 1 : 0);
            Check.due("7: the younger one", x.task(0, 0), policy == 1 ? 0 : 2);
            ProbeLocks y = manager(2);
            y.finish(0);
            y.create(1);
            y.setPolicy(policy);
            y.request(1, 3);
            Check.due("15: 0 is younger than 1", y.wouldHappen(0, 3), policy == 1 ? 2 : 1);
            Check.due("7: 0 is younger than 1", y.request(0, 3), policy == 1 ? 2 : 1);
        }
    }

    private static void woundOrWait() {
        ProbeLocks x = manager(4);
        x.setPolicy(2);
        x.request(2, 1);
        x.request(3, 2);
        x.request(3, 3);
        x.request(2, 3);
        Check.due("7: the older one took it", x.task(2, 3), 10);
        Check.due("7: the younger one is aborted", x.task(3, 0), 2);
        x.restart(3);
        Check.due("15: only an older one in the way", x.wouldHappen(3, 3), 1);
        Check.due("7: so it waits", x.request(3, 3), 1);
        Check.due("15: would abort and be granted", x.wouldHappen(0, 0), 3);
        Check.due("15: nothing changes", x.task(2, 0), 0);
        Check.due("7: granted", x.request(0, 0), 0);
        row("it holds", x, 0, 0, 1, 1, 1, -1, 0, -1);
        row("the holder was aborted", x, 2, 2, 1, 3, 0, -1, 0, -1);
        row("settled", x, 3, 0, 1, 4, 8, -1, 0, -1);
        Check.due("14: nobody waits", x.waiting(0), -1);
        Check.due("23: aborted", x.told(6), 2);
        Check.due("23: granted", x.told(7), 6);
    }

    private static void woundAndWait() {
        ProbeLocks x = manager(4);
        x.setPolicy(2);
        x.request(0, 1);
        x.request(2, 2);
        x.request(2, 3);
        x.request(3, 3);
        Check.due("7: the youngest waits", x.task(3, 0), 1);
        Check.due("15: would abort and wait", x.wouldHappen(1, 0), 4);
        Check.due("7: waits", x.request(1, 0), 1);
        row("waits for the older one", x, 1, 1, 1, 2, 0, 0, 1, 0);
        Check.due("7: the younger one is aborted", x.task(2, 0), 2);
        Check.due("7: settled", x.task(3, 3), 8);
        Check.due("14: the order", x.waiting(1), -1);
        Check.due("9: then", x.finish(0), 1);
        Check.due("9: granted", x.task(1, 3), 1);
    }

    private static void release() {
        ProbeLocks x = manager(3);
        x.request(0, 1);
        x.request(0, 3);
        x.request(1, 2);
        x.request(2, 3);
        x.request(0, 0);
        Check.due("8: a waiting task releases", x.release(0, 3), 1);
        Check.due("8: settled", x.task(2, 3), 8);
        Check.due("8: it still waits", x.task(0, 0), 1);
        Check.due("8: the last one", x.release(0, 1), 0);
        Check.badState("8: not any more", () -> x.release(0, 1));
        x.undo();
        Check.due("8: undone", x.task(0, 3), 2);
        x.undo();
        Check.due("8: undone twice", x.task(0, 3), 10);
        Check.due("8: and it waits again", x.task(2, 0), 1);
        Check.badState("8: a resource below is not held", () -> x.release(2, 3));
    }

    private static void finish() {
        ProbeLocks x = manager(3);
        x.request(0, 1);
        x.request(0, 3);
        x.request(1, 3);
        x.request(2, 0);
        Check.due("9: held", x.finish(0), 2);
        Check.due("12: gone", x.tasks(), 6);
        Check.noThing("9: not there any more", () -> x.finish(0));
        Check.noThing("13: not there any more", () -> x.task(0, 0));
        Check.due("9: settled", x.task(1, 3), 8);
        Check.due("9: settled", x.task(2, 3), 1);
        Check.due("9: held one", x.finish(2), 1);
        x.undo();
        x.undo();
        Check.due("9: undone", x.tasks(), 7);
        Check.due("9: undone", x.task(0, 3), 10);
        Check.due("14: undone", x.waiting(1), 2);
        Check.due("23: counts are not undone", x.told(7), 4);
        Check.due("23: finishing aborts nobody", x.told(6), 0);
        x.finish(0);
        x.create(77);
        row("a new task in its place", x, 0, 0, 77, 4);
        x.undo();
        x.undo();
        row("undone, the old one is back", x, 0, 0, 1, 1, 10, -1, 0, -1);
    }

    private static void abort() {
        ProbeLocks x = manager(3);
        x.request(0, 1);
        x.request(0, 2);
        x.request(1, 3);
        x.request(0, 3);
        x.request(2, 0);
        Check.due("10: held, and waited", x.abort(0), 2);
        row("aborted", x, 0, 2, 1, 1, 0, -1, 0, -1);
        Check.due("10: settled", x.task(2, 3), 1);
        Check.due("12: it is still there", x.tasks(), 7);
        Check.due("14: it left the order", x.waiting(0), -1);
        Check.due("10: one that runs", x.abort(1), 1);
        Check.due("23: aborted", x.told(6), 2);
        x.undo();
        x.undo();
        row("undone", x, 0, 1, 1, 1, 6, 3, 2, 0);
        Check.due("14: undone", x.waiting(1), 2);
    }

    private static void restart() {
        ProbeLocks x = manager(2);
        x.request(1, 3);
        x.abort(1);
        x.create(1);
        Check.due("11: its serial number", x.restart(1), 2);
        row("it runs again", x, 1, 0, 1, 2, 0, -1, 0, -1);
        Check.badState("11: not twice", () -> x.restart(1));
        x.undo();
        Check.due("11: undone", x.task(1, 0), 2);
    }

    private static void settleInOrder() {
        ProbeLocks x = manager(6);
        x.request(0, 0);
        x.request(4, 1);
        x.request(1, 0);
        x.request(3, 2);
        x.request(2, 1);
        int[] order = {4, 1, 3, 2};
        for (int k = 0; k < 4; k++) {
            Check.due("14: in the order they began", x.waiting(k), order[k]);
            Check.due("13: and their positions", x.task(order[k], 6), k);
        }
        x.finish(0);
        Check.due("settle: the first", x.task(4, 3), 2);
        Check.due("settle: the next still waits for the first", x.task(1, 5), 24);
        Check.due("settle: but one behind it need not", x.task(3, 3), 4);
        Check.due("settle: the last one waits", x.task(2, 5), 16);
        Check.due("14: who is left", x.waiting(0), 1);
        Check.due("14: who is left", x.waiting(1), 2);
        Check.due("14: nobody more", x.waiting(2), -1);
        Check.due("13: positions moved up", x.task(2, 6), 1);
        Check.due("23: granted", x.told(7), 3);
    }
}

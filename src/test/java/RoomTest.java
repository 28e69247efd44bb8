import com.sun.management.ThreadMXBean;
import java.lang.management.ManagementFactory;

/**
 * The room that all calls of a run share: whatever an object is asked, again and again, it makes so
 * little that a run with hundreds of objects stays far below 7.3 million fields and elements.
 */
public final class RoomTest {
    private static final ThreadMXBean THREADS = (ThreadMXBean) ManagementFactory.getThreadMXBean();
    private static final long MOST_BYTES = 60_000;
    private static final int ROUNDS = 100;

    public static void main(String[] args) {
        changes("r-1", x -> x.addResource(0));
        changes("t1", x -> x.create(9));
        changes("r-1 t1", x -> x.request(0, 0));
        changes("r-1 r0 r0 t1 t1 t1 q1,1 q2,2 P2", x -> x.request(0, 0));
        changes("r-1 t1 t1 q0,0 q1,0", x -> x.release(0, 0));
        changes("r-1 t1 t1 q0,0 q1,0", x -> x.finish(0));
        changes("r-1 t1 t1 q0,0 q1,0", x -> x.abort(0));
        changes("t1 a0", x -> x.restart(0));
        changes("t1", x -> x.setPolicy(1) + x.setRule(1) + x.setBudget(9));
        spend("probe", Make.full(), x -> x.probe(0) + x.undo());
        spend("deliver", Make.full(), x -> x.deliver(99) + x.undo());
        spend("run", Make.full(), x -> x.run() + x.undo());
        spend("resource", Make.full(), x -> x.resource(15, 2) + x.resource(15, 3) + x.resource(15, 4));
        spend("overlap", Make.full(), x -> x.overlap(0, 15) ? 1 : 0);
        spend("task", Make.full(), x -> x.task(9, 5) + x.task(9, 6) + x.waiting(9));
        spend("wouldHappen", Make.rich(), x -> x.wouldHappen(0, 0));
        spend("message", Make.full(), x -> x.message(39, 0) + x.message(39, 4));
        spend("told and latest", Make.full(), x -> x.told(7) + x.latest(0));
        spend("onCycles and stuck", Make.full(), x -> x.onCycles() + x.stuck());
        spend("shortestCycle", Make.full(), x -> x.shortestCycle(9));
        spend("cycles", Make.full(), x -> x.cycles());
        spend("bestVictims", Make.full(), x -> x.bestVictims());
        spend("wouldEnd", Make.rich(), x -> x.wouldEnd());
        spend("type and clearText", Make.full(), x -> x.clearText() + x.type('t'));
        spend("fault", Make.full(), x -> x.fault());
        spend("checksum", Make.full(), x -> x.checksum());
        Check.done("RoomTest");
    }

    private static void changes(String setup, RefusedEdges.Use call) {
        spend("a change after " + setup, Make.of(setup), x -> call.on(x) + x.undo());
    }

    private static long allocated() {
        return THREADS.getThreadAllocatedBytes(Thread.currentThread().getId());
    }

    private static void spend(String name, ProbeLocks x, RefusedEdges.Use call) {
        long before = allocated();
        ProbeLocks another = new ProbeLocks();
        for (int i = 0; i < ROUNDS; i++) {
            call.on(x);
        }
        long spent = allocated() - before;
        Check.due("another object", another.resources(), 0);
        Check.due(name + " makes at most " + MOST_BYTES + " bytes, not " + spent, spent <= MOST_BYTES, true);
    }
}

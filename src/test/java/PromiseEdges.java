/** The sentences of the promises 1 to 36 at their edges; what they refuse is looked at by RefusedEdges. */
final class PromiseEdges {
    private static final int NONE = ProbeLocks.NONE;
    private static final String UNDOABLE = "Undoable.";

    private PromiseEdges() {
    }

    static void all() {
        newObject();
        addResource();
        resources();
        resource();
        overlap();
        create();
        request();
        release();
        finish();
        abort();
        restart();
        tasks();
        task();
        waiting();
        wouldHappen();
        setPolicy();
        setRule();
        setBudget();
        probe();
        deliver();
        messages();
        message();
        told();
        onCycles();
        stuck();
        shortestCycle();
        cycles();
        latest();
        bestVictims();
        wouldEnd();
        type();
        clearText();
        fault();
        run();
        undo();
        checksum();
        lookingChangesNothing();
    }

    private static int set(int... members) {
        return DescriptionEdges.set(members);
    }

    /** The call leaves one record, and undo() brings back what was before it. */
    private static void undoable(String setup, String call, int answer) {
        ProbeLocks x = Make.of(setup);
        Make.on(x, "u");
        long before = x.checksum();
        Check.due(call + " after " + setup, Make.on(x, call), answer);
        Check.due(call + " has changed something", x.checksum() != before, true);
        x.undo();
        Check.due(call + " is undone", x.checksum(), before);
    }

    // ---- resources

    private static void newObject() {
        Doc.promise(1, "Creates a manager without resources and tasks, with policy 0, rule 0, an empty text and without records.");
        ProbeLocks x = new ProbeLocks();
        Check.due("resources", x.resources(), 0);
        Check.due("tasks", x.tasks(), 0);
        Check.due("messages", x.messages(), 0);
        Check.order("nobody waits", x);
        Check.told("nothing is counted", x, 0, 0, 0, 0, 0, 0, 0, 0);
        Check.latest("nothing is found", x, NONE, NONE, NONE);
        Check.badState("no records", () -> x.undo());
        Check.due("an empty text", x.clearText(), 0);
        Check.due("policy", x.setPolicy(2), 0);
        Check.due("rule", x.setRule(2), 0);
        ProbeLocks y = new ProbeLocks();
        Check.due("another one has its own policy", y.setPolicy(1), 0);
        Check.due("another one has its own records", y.undo(), 0);
        Check.due("an object of 512 calls", manyCalls(), 512);
    }

    /** The document lets an object be used for 512 calls: the last one is answered as the first. */
    private static int manyCalls() {
        ProbeLocks x = Make.crowd(10);
        int calls = 1 + 3 * 10 + 10;
        while (calls < 512) {
            Check.due("call " + calls, x.cycles(), 1112073);
            calls++;
        }
        return calls;
    }

    private static void addResource() {
        Doc.promise(2, "Creates a resource.", UNDOABLE, "- `parent`: its parent; NONE for none", "Returns its number.");
        ProbeLocks x = new ProbeLocks();
        Check.due("without a parent", x.addResource(NONE), 0);
        Check.due("with the first as its parent", x.addResource(0), 1);
        Check.due("with the last as its parent", x.addResource(1), 2);
        Check.due("a second one without", x.addResource(-1), 3);
        Check.due("their parents", x.resource(0, 0), NONE);
        Check.due("their parents", x.resource(1, 0), 0);
        Check.due("their parents", x.resource(2, 0), 1);
        Check.due("their parents", x.resource(3, 0), NONE);
        undoable("r-1 r-1", "r-1", 1);
        undoable("r-1 r-1 r1 r2 r3 r4 r5 r6 r7 r8 r9 r10 r11 r12 r13 r14", "r14", 15);
        ProbeLocks held = Make.of("r-1 t1 t1 q0,0 r0 q1,1");
        Check.due("below one that is held", held.task(1, 0), 1);
    }

    private static void resources() {
        Doc.promise(3, "Returns the number of resources.", "Returns the number.");
        ProbeLocks x = new ProbeLocks();
        for (int n = 0; n < 16; n++) {
            Check.due("so far", x.resources(), n);
            x.addResource(n - 1);
        }
        Check.due("all", x.resources(), 16);
        Make.on(x, "u u");
        Check.due("undone", x.resources(), 14);
    }

    private static void resource() {
        Doc.promise(4, "Returns a property of a resource.", "Returns the property.",
                "- `what`: 0 its parent (NONE for none), 1 the number of its ancestors, 2 the set of the resources that are the "
                + "same or below it, as a bit mask, 3 the task that holds it or an ancestor of it (NONE if there is none), "
                + "4 the set of tasks that hold a resource that overlaps it, as a bit mask");
        ProbeLocks chain = Make.of("r-1 r0 r1 r2 r3 r4 r5 r6 r7 r8 r9 r10 r11 r12 r13 r14 t1 t1 q1,8");
        for (int r = 0; r < 16; r++) {
            Check.due("its parent", chain.resource(r, 0), r - 1);
            Check.due("its ancestors", chain.resource(r, 1), r);
            Check.due("the same or below", chain.resource(r, 2), 0xFFFF & -(1 << r));
            Check.due("held, it or above", chain.resource(r, 3), r >= 8 ? 1 : NONE);
            Check.due("held nearby", chain.resource(r, 4), set(1));
        }
        ProbeLocks broad = Make.of("r-1 r0 r0 r0 r-1 t1 t1 t1 t1 q3,1 q0,2 q2,4 q1,0");
        int[] below = {set(0, 1, 2, 3), set(1), set(2), set(3), set(4)};
        int[] holder = {NONE, 3, 0, NONE, 2};
        int[] near = {set(0, 3), set(3), set(0), 0, set(2)};
        for (int r = 0; r < 5; r++) {
            Check.due("below " + r, broad.resource(r, 2), below[r]);
            Check.due("the holder of " + r, broad.resource(r, 3), holder[r]);
            Check.due("the holders near " + r, broad.resource(r, 4), near[r]);
        }
        ProbeLocks all = Make.crowd(10);
        Check.due("all ten", all.resource(0, 4), 1023);
        Check.due("the last of ten", all.resource(10, 3), 9);
    }

    private static void overlap() {
        Doc.promise(5, "Tells whether two resources overlap.", "Returns whether they do.");
        ProbeLocks x = Make.of("r-1 r0 r1 r0 r-1");
        Check.due("the same", x.overlap(2, 2), true);
        Check.due("its parent", x.overlap(2, 1), true);
        Check.due("its parent's parent", x.overlap(2, 0), true);
        Check.due("its child's child", x.overlap(0, 2), true);
        Check.due("its parent's sister", x.overlap(2, 3), false);
        Check.due("its sister's child", x.overlap(3, 2), false);
        Check.due("its sister", x.overlap(1, 3), false);
        Check.due("two without parents", x.overlap(0, 4), false);
        Check.due("another tree", x.overlap(4, 2), false);
    }

    // ---- tasks

    private static void create() {
        Doc.promise(6, "Creates a task, which is running and holds nothing.", UNDOABLE, "- `cost`: its cost", "Returns its number.");
        ProbeLocks x = new ProbeLocks();
        Check.due("the cheapest", x.create(1), 0);
        Check.task("the cheapest", x, 0, 0, 1, 1, 0, NONE, 0, NONE);
        Check.due("the dearest", x.create(99), 1);
        Check.task("the dearest", x, 1, 0, 99, 2, 0, NONE, 0, NONE);
        ProbeLocks again = Make.of("r-1 r-1 t9 t8 t7 q0,0 q2,1 q0,1 a0 b0 f0 t5");
        Check.task("nothing is left of the one that had its number", again, 0, 0, 5, 4, 0, NONE, 0, NONE);
        undoable("t1 t1", "t1", 1);
        undoable("t1 t1 t1 t1 t1 t1 t1 t1 t1 t1", "t99", 9);
    }

    private static void request() {
        Doc.promise(7, "Lets a task request a resource.", UNDOABLE, "Returns the state of the task then.");
        ProbeLocks x = Make.of("r-1 t1 t1 t1");
        Check.due("granted", x.request(1, 0), 0);
        Check.due("nothing happens", x.request(1, 0), 0);
        Check.due("it waits", x.request(0, 0), 1);
        x.setPolicy(1);
        Check.due("it is aborted", x.request(2, 0), 2);
        ProbeLocks wound = Make.of("r-1 t1 t1 t1 P2 q1,0");
        Check.due("it is granted by force", wound.request(0, 0), 0);
        Check.due("it waits", wound.request(2, 0), 1);
        undoable("r-1 t1 B5", "q0,0", 0);
        undoable("r-1 t1 t1 q0,0 B5", "q1,0", 1);
        undoable("r-1 t1 t1 q0,0 P1 B5", "q1,0", 2);
        undoable("r-1 t1 t1 q1,0 P2 B5", "q0,0", 0);
        ProbeLocks last = Make.of("r-1 r0 r0 r0 r0 r0 r0 r0 r0 r0 r0 r0 r0 r0 r0 r0 t1 t1 t1 t1 t1 t1 t1 t1 t1 t1");
        Check.due("the last task and the last resource", last.request(9, 15), 0);
        Check.due("held", last.task(9, 3), 1 << 15);
        Check.due("the other tasks wait", last.request(0, 0), 1);
    }

    private static void release() {
        Doc.promise(8, "Lets a task release a resource; then it is settled.", UNDOABLE, "Returns how many resources it holds then.");
        ProbeLocks x = Make.of("r-1 r0 r-1 t1 t1 t1 q0,1 q0,0 q0,2 q1,2 q2,1");
        Check.due("two are left", x.release(0, 2), 2);
        Check.due("settled", x.task(1, 3), set(2));
        Check.due("one is left", x.release(0, 0), 1);
        Check.due("what is left is in the way", x.task(2, 5), set(0));
        Check.due("none is left", x.release(0, 1), 0);
        Check.due("settled", x.task(2, 3), set(1));
        ProbeLocks waits = Make.of("r-1 r-1 t1 t1 q0,0 q1,1 q0,1");
        Check.due("one that waits may release", waits.release(0, 0), 0);
        Check.task("it waits still", waits, 0, 1, 1, 1, 0, 1, set(1), 0);
        ProbeLocks below = Make.of("r-1 r0 r0 t1 t1 q0,1 q1,2 q0,0");
        below.release(0, 1);
        Check.due("not granted by its own release, for another one holds", below.task(0, 0), 1);
        undoable("r-1 t1 t1 q0,0 q1,0 B5", "l0,0", 0);
    }

    private static void finish() {
        Doc.promise(9, "Ends a running task: it holds nothing any more, and does not exist any more; then it is settled.", UNDOABLE,
                "Returns how many resources it held.");
        ProbeLocks x = Make.of("r-1 r-1 t1 t1 t1 q0,0 q0,1 q2,1 q1,0");
        Check.due("two", x.finish(0), 2);
        Check.due("it does not exist any more", x.tasks(), set(1, 2));
        Check.noThing("it does not exist any more", () -> x.task(0, 0));
        Check.due("settled", x.resource(0, 3), 1);
        Check.due("settled", x.resource(1, 3), 2);
        Check.due("one", x.finish(1), 1);
        Check.due("it holds nothing any more", x.resource(0, 3), NONE);
        x.create(1);
        Check.due("none", x.finish(0), 0);
        undoable("r-1 t1 t1 q0,0 q1,0 B5", "f0", 1);
        undoable("t1 t1 t1 t1 t1 t1 t1 t1 t1 t1 B5", "f9", 0);
    }

    private static void abort() {
        Doc.promise(10, "Aborts a task; then it is settled.", UNDOABLE, "Returns how many resources it held.");
        ProbeLocks x = Make.of("r-1 r-1 r-1 t1 t1 t1 q0,0 q0,1 q1,2 q2,1 q0,2");
        Check.due("two, and it waited", x.abort(0), 2);
        Check.due("settled", x.task(2, 3), set(1));
        Check.due("it exists still", x.tasks(), set(0, 1, 2));
        Check.due("one", x.abort(1), 1);
        Check.due("counted", x.told(6), 2);
        x.create(1);
        Check.due("none", x.abort(3), 0);
        undoable("r-1 t1 t1 q0,0 q1,0 B5", "a0", 1);
        undoable("r-1 t1 t1 q0,0 q1,0 B5", "a1", 0);
    }

    private static void restart() {
        Doc.promise(11, "Lets an aborted task run again, with the same serial number.", UNDOABLE, "Returns its serial number.");
        ProbeLocks x = Make.of("r-1 t4 t5 q0,0 a0 t6");
        Check.due("its serial number", x.restart(0), 1);
        Check.task("it runs and holds nothing", x, 0, 0, 4, 1, 0, NONE, 0, NONE);
        Check.due("the next one has the next number", x.task(x.create(1), 2), 4);
        Check.due("it may request", x.request(0, 0), 0);
        ProbeLocks late = Make.of("t1 f0 t1 f0 t1 a0");
        Check.due("not its number, nor one more", late.restart(0), 3);
        undoable("t1 t1 a1 B5", "b1", 2);
    }

    private static void tasks() {
        Doc.promise(12, "Returns the set of tasks.", "Returns a bit mask.");
        ProbeLocks x = new ProbeLocks();
        for (int t = 0; t < 10; t++) {
            Check.due("so far", x.tasks(), (1 << t) - 1);
            x.create(1);
        }
        Check.due("ten", x.tasks(), 1023);
        Make.on(x, "a9 f0");
        Check.due("an aborted one is there, a finished one is not", x.tasks(), 1022);
        x.undo();
        Check.due("undone", x.tasks(), 1023);
    }

    private static void task() {
        Doc.promise(13, "Returns a property of a task.", "Returns the property.",
                "- `what`: 0 its state, 1 its cost, 2 its serial number, 3 the set of resources that it holds, as a bit mask, "
                + "4 the resource for which it waits (NONE if it does not wait), 5 the set of tasks for which it waits, as a bit "
                + "mask, 6 its position in the order of the waiting tasks (NONE if it does not wait)");
        ProbeLocks x = Make.of("r-1 r0 r0 r-1 r-1 t11 t22 t33 t44 q0,1 q1,2 q1,3 q3,0 q2,4 q2,3");
        Check.task("it runs", x, 0, 0, 11, 1, set(1), NONE, 0, NONE);
        Check.task("it runs with two", x, 1, 0, 22, 2, set(2, 3), NONE, 0, NONE);
        Check.task("it waits second", x, 2, 1, 33, 3, set(4), 3, set(1), 1);
        Check.task("it waits first, for resource 0 and two tasks", x, 3, 1, 44, 4, 0, 0, set(0, 1), 0);
        x.abort(3);
        Check.task("it is aborted", x, 3, 2, 44, 4, 0, NONE, 0, NONE);
        Check.task("it waits first now", x, 2, 1, 33, 3, set(4), 3, set(1), 0);
        ProbeLocks all = Make.crowd(10);
        Check.task("the last of ten", all, 9, 1, 1, 10, 1 << 10, 0, 511, 9);
    }

    private static void waiting() {
        Doc.promise(14, "Returns a waiting task.", "- `k`: its position in the order in which they began to wait, from 0",
                "Returns the task; NONE if there is no such position.");
        ProbeLocks x = Make.of("r-1 t1 t1 t1 q1,0 q2,0 q0,0");
        Check.due("the first", x.waiting(0), 2);
        Check.due("the last", x.waiting(1), 0);
        int[] nowhere = {2, 3, 9, 10, 11, 32, Integer.MAX_VALUE, -1, -2, -32, Integer.MIN_VALUE};
        for (int k : nowhere) {
            Check.due("no position " + k, x.waiting(k), NONE);
            Check.due("no position " + k + " of a new object", new ProbeLocks().waiting(k), NONE);
        }
        ProbeLocks all = Make.crowd(10);
        Check.due("the tenth", all.waiting(9), 9);
        Check.due("no eleventh", all.waiting(10), NONE);
    }

    private static void wouldHappen() {
        Doc.promise(15, "Tells what would happen if a running task requested a resource.",
                "Returns 0 it would be granted, or nothing would happen; 1 it would wait; 2 it would be aborted; 3 other tasks "
                + "would be aborted, and it would be granted; 4 other tasks would be aborted, and it would wait.");
        // Root 0 over 1, 2 and 3, and 4 alone; 0 holds 1, 2 holds 2, 1 and 3 hold nothing.
        String setup = "r-1 r0 r0 r0 r-1 t1 t1 t1 t1 q0,1 q2,2 P";
        int[][] asked = {{0, 4}, {0, 1}, {2, 2}, {3, 4}, {1, 3}, {0, 0}, {1, 0}, {3, 0}, {1, 2}, {3, 2}};
        int[][] due = {
            {0, 0, 0}, {0, 0, 0}, {0, 0, 0}, {0, 0, 0}, {0, 0, 0}, {1, 1, 3}, {1, 2, 4}, {1, 2, 1}, {1, 1, 3}, {1, 2, 1}
        };
        for (int policy = 0; policy <= 2; policy++) {
            for (int i = 0; i < asked.length; i++) {
                ProbeLocks x = Make.of(setup + policy);
                int t = asked[i][0];
                int r = asked[i][1];
                String name = "policy " + policy + ", task " + t + ", resource " + r;
                long before = x.checksum();
                int would = x.wouldHappen(t, r);
                Check.due(name, would, due[i][policy]);
                Check.due(name + " changes nothing", x.checksum(), before);
                int aborts = x.told(6);
                int state = x.request(t, r);
                boolean others = x.told(6) > aborts && state != 2;
                Check.due(name + " happens", would, state == 2 ? 2 : others ? 3 + state : state);
            }
        }
    }

    // ---- settings

    private static void setPolicy() {
        Doc.promise(16, "Sets the policy.", UNDOABLE, "- `policy`: 0 to 2", "Returns the previous one.");
        ProbeLocks x = new ProbeLocks();
        int previous = 0;
        for (int v : new int[] {2, 0, 1, 1, 2, 1, 0, 0}) {
            Check.due("set to " + v, x.setPolicy(v), previous);
            previous = v;
        }
        undoable("B5", "P1", 0);
        undoable("P2 B5", "P1", 2);
        int[] due = {1, 2, 1};
        for (int policy = 0; policy <= 2; policy++) {
            ProbeLocks y = Make.of("r-1 t1 t1 q0,0 P" + policy);
            Check.due("policy " + policy + " counts", y.request(1, 0), due[policy]);
        }
    }

    private static void setRule() {
        Doc.promise(17, "Sets the rule for victims.", UNDOABLE, "- `rule`: 0 to 2", "Returns the previous one.");
        ProbeLocks x = new ProbeLocks();
        int previous = 0;
        for (int v : new int[] {2, 0, 1, 1, 2, 1, 0, 0}) {
            Check.due("set to " + v, x.setRule(v), previous);
            previous = v;
        }
        undoable("B5", "R1", 0);
        undoable("R2 B5", "R1", 2);
        ProbeLocks late = Make.ring(1, 2);
        Make.on(late, "p0 d1 R1 d1");
        Check.latest("the rule of the delivery counts, not that of the probe", late, set(0, 1), 1, 0);
    }

    private static void setBudget() {
        Doc.promise(18, "Sets the budget.", "(Messages that were sent keep their hops.)", UNDOABLE, "- `hops`: 1 to 9",
                "Returns the previous one.");
        ProbeLocks x = new ProbeLocks();
        int previous = 4;
        for (int v : new int[] {9, 1, 8, 8, 2, 7, 3, 6, 4, 5}) {
            Check.due("set to " + v, x.setBudget(v), previous);
            previous = v;
        }
        undoable("P1", "B9", 4);
        undoable("B2 P1", "B1", 2);
        ProbeLocks kept = Make.ring(1, 1, 1);
        Make.on(kept, "B3 p0 B9 p1 B1");
        Check.due("the first keeps its hops", kept.message(0, 2), 2);
        Check.due("the second too", kept.message(1, 2), 8);
        Make.on(kept, "d2");
        Check.due("also when it is sent on", kept.message(0, 2), 1);
        Check.due("also when it is sent on", kept.message(1, 2), 7);
    }

    // ---- probes

    private static void probe() {
        Doc.promise(19, "Lets a task start a probe.", UNDOABLE, "Returns the number of messages that are not delivered yet then.");
        ProbeLocks x = Make.crowd(3);
        Check.due("two", x.probe(1), 2);
        Check.due("two more", x.probe(1), 4);
        x.deliver(3);
        Check.due("with those that were sent on", x.messages(), 1 + 3 * 2);
        Check.due("and two more", x.probe(2), 9);
        ProbeLocks full = Make.full();
        Check.due("no more than forty", full.probe(9), 40);
        undoable("r-1 t1 t1 q0,0 q1,0 B5", "p1", 1);
    }

    private static void deliver() {
        Doc.promise(20, "Delivers messages, one after the other, as long as there are any.", UNDOABLE, "- `n`: how many at most, 1 to 99",
                "Returns how many were delivered.");
        ProbeLocks none = new ProbeLocks();
        Check.due("there are none", none.deliver(1), 0);
        Check.due("there are none", none.deliver(99), 0);
        ProbeLocks x = Make.ring(1, 1, 1, 1);
        Make.on(x, "B9 p0 p2");
        Check.due("one", x.deliver(1), 1);
        Check.due("two are left", x.messages(), 2);
        Check.due("five, those that are sent meanwhile too", x.deliver(5), 5);
        Check.due("the last two", x.deliver(99), 2);
        Check.due("none is left", x.messages(), 0);
        Check.due("none is left", x.deliver(1), 0);
        ProbeLocks many = Make.crowd(10);
        Make.on(many, "B9 R1 p0 p1 p2");
        Check.due("no more than asked for", many.deliver(9), 9);
        ProbeLocks most = busy();
        Check.due("99 of more than 99", most.deliver(99), 99);
        Check.due("some are left", most.messages() > 0, true);
        Check.due("98 of more than 98", busy().deliver(98), 98);
        undoable("r-1 t1 t1 q0,0 q1,0 p1 B5", "d1", 1);
        undoable("r-1 t1 t1 q0,0 q1,0 p1 p1 p1 B5", "d99", 3);
    }

    /** Each delivery of the first ones sends more than one message. */
    private static ProbeLocks busy() {
        ProbeLocks x = Make.crowd(10);
        Make.on(x, "B9 p9 p8 p7 p6 p5");
        return x;
    }

    private static void messages() {
        Doc.promise(21, "Returns the number of messages that are not delivered yet.", "Returns the number.");
        ProbeLocks x = Make.ring(1, 1);
        Check.due("none", x.messages(), 0);
        x.probe(0);
        Check.due("one", x.messages(), 1);
        x.probe(1);
        Check.due("two", x.messages(), 2);
        x.deliver(1);
        Check.due("one is delivered, one is sent on", x.messages(), 2);
        x.deliver(99);
        Check.due("none", x.messages(), 0);
        x.undo();
        Check.due("undone", x.messages(), 2);
        Check.due("at most", Make.full().messages(), 40);
    }

    private static void message() {
        Doc.promise(22, "Returns a property of a message that is not delivered yet.",
                "- `k`: its position in the order in which they will be delivered, from 0",
                "- `what`: 0 its initiator, 1 its target, 2 the hops that are left, 3 the number of tasks of its path, "
                + "4 the set of these, as a bit mask", "Returns the property; NONE if there is no such message.");
        ProbeLocks x = Make.ring(1, 1, 1);
        Make.on(x, "p2 p1 d1");
        Check.message("the first", x, 0, 1, 2, 3, 1, set(1));
        Check.message("the last", x, 1, 2, 1, 2, 2, set(0, 2));
        int[] nowhere = {2, 3, 39, 40, 41, 80, Integer.MAX_VALUE, -1, -2, -40, Integer.MIN_VALUE};
        for (int k : nowhere) {
            for (int what = 0; what <= 4; what++) {
                Check.due("no message " + k, x.message(k, what), NONE);
                Check.due("no message " + k + " in a new object", new ProbeLocks().message(k, what), NONE);
            }
        }
        ProbeLocks full = Make.full();
        Check.message("the fortieth", full, 39, 4, 3, 3, 1, set(4));
        Check.message("no forty-first", full, 40, NONE, NONE, NONE, NONE, NONE);
        Make.on(full, "d1");
        Check.message("the row of the first is used again", full, 39, 0, 0, 2, 2, set(0, 1));
        Check.message("the second is the first", full, 0, 0, 2, 3, 1, set(0));
        full.undo();
        Check.message("undone", full, 0, 0, 1, 3, 1, set(0));
        Check.message("undone", full, 39, 4, 3, 3, 1, set(4));
    }

    private static void told() {
        Doc.promise(23, "Returns a count since the manager was created.", "Returns the count.",
                "- `what`: 0 messages that were sent (without those that were lost), 1 lost ones, 2 stale ones, 3 spent ones, "
                + "4 deadlocks that were found, 5 deadlocks that were missed, 6 tasks that were aborted, 7 resources that were granted");
        ProbeLocks x = Make.crowd(10);
        Check.told("granted", x, 0, 0, 0, 0, 0, 0, 0, 10);
        Make.on(x, "p0 p1 p2 p3 p4");
        Check.told("sent and lost", x, 40, 5, 0, 0, 0, 0, 0, 10);
        ProbeLocks rest = Make.ring(1, 1, 1);
        Make.on(rest, "B1 p0 d1");
        Check.told("spent and missed", rest, 1, 0, 0, 1, 0, 1, 0, 3);
        Make.on(rest, "B3 p0 d3");
        Check.told("found, aborted and granted", rest, 4, 0, 0, 1, 1, 1, 1, 4);
        Make.on(rest, "p0 a0 d1");
        Check.told("stale, and aborted by abort()", rest, 5, 0, 1, 1, 1, 1, 2, 4);
        Make.on(rest, "b0 b2 P1 q2,0 q0,1 q2,1");
        Check.told("aborted by a request", rest, 5, 0, 1, 1, 1, 1, 3, 5);
    }

    // ---- analysis

    private static void onCycles() {
        Doc.promise(24, "Returns the set of tasks that lie on a cycle.", "Returns a bit mask.");
        Check.due("nobody", new ProbeLocks().onCycles(), 0);
        Check.due("all ten", Make.crowd(10).onCycles(), 1023);
        ProbeLocks x = Make.ring(1, 1, 1);
        Make.on(x, "t1 q3,1");
        Check.due("not the one behind", x.onCycles(), set(0, 1, 2));
        x.abort(1);
        Check.due("broken", x.onCycles(), 0);
    }

    private static void stuck() {
        Doc.promise(25, "Returns the set of tasks that are stuck.", "Returns a bit mask.");
        Check.due("nobody", new ProbeLocks().stuck(), 0);
        Check.due("all ten", Make.crowd(10).stuck(), 1023);
        ProbeLocks x = Make.ring(1, 1, 1);
        Make.on(x, "t1 q3,1 t1");
        Check.due("the one behind too", x.stuck(), set(0, 1, 2, 3));
        x.abort(1);
        Check.due("broken", x.stuck(), 0);
    }

    private static void shortestCycle() {
        Doc.promise(26, "Returns the length of a shortest cycle on which a task lies.",
                "Returns the number of its tasks; NONE if it lies on none.");
        for (int length = 2; length <= 10; length++) {
            int[] costs = new int[length];
            java.util.Arrays.fill(costs, 1);
            ProbeLocks x = Make.ring(costs);
            for (int t = 0; t < length; t++) {
                Check.due("in a ring of " + length, x.shortestCycle(t), length);
            }
            x.abort(length / 2);
            ProbeLocks crowd = Make.crowd(length);
            for (int t = 0; t < length; t++) {
                Check.due("in none", x.shortestCycle(t), NONE);
                Check.due("in many", crowd.shortestCycle(t), 2);
            }
        }
        // 0 waits for 1 and 3; 1 for 2, 2 for 0; 3 for 0; 4 waits for 0; 5 runs.
        ProbeLocks x = Make.of("r-1 r0 r0 r-1 r-1 t1 t1 t1 t1 t1 t1 q1,1 q3,2 q0,3 q2,4 q0,0 q1,4 q2,3 q3,3 q4,3");
        int[] due = {2, 3, 3, 2, NONE, NONE};
        for (int t = 0; t < 6; t++) {
            Check.due("of two rings the shorter one, task " + t, x.shortestCycle(t), due[t]);
        }
    }

    private static void cycles() {
        Doc.promise(27, "Counts the cycles: the sets of tasks that can be put in a ring in which each one waits for the next one; "
                + "different rings of the same tasks count each.", "Returns how many there are.");
        Check.due("nobody", new ProbeLocks().cycles(), 0);
        Check.due("one that waits for another", Make.of("r-1 t1 t1 q0,0 q1,0").cycles(), 0);
        Check.due("two", Make.crowd(2).cycles(), 1);
        Check.due("three: three pairs, and two rings of the same three", Make.crowd(3).cycles(), 5);
        Check.due("four", Make.crowd(4).cycles(), 20);
        Check.due("ten, the most", Make.crowd(10).cycles(), 1112073);
        Check.due("a ring of ten", Make.ring(1, 1, 1, 1, 1, 1, 1, 1, 1, 1).cycles(), 1);
        ProbeLocks behind = Make.crowd(3);
        Make.on(behind, "t1 q3,1 t1");
        Check.due("one behind counts nothing", behind.cycles(), 5);
        ProbeLocks apart = Make.of("r-1 r-1 r-1 r-1 t1 t1 t1 t1 q0,0 q1,1 q2,2 q3,3 q0,3 q3,0 q1,2 q2,1");
        Check.due("two rings apart", apart.cycles(), 2);
    }

    private static void latest() {
        Doc.promise(28, "Returns something about the deadlock that was found last (it is not changed by undo()).",
                "- `what`: 0 the set of the tasks of its cycle, as a bit mask, 1 the victim, 2 the initiator",
                "Returns that number; NONE if no deadlock has been found.");
        Check.latest("a new object", new ProbeLocks(), NONE, NONE, NONE);
        ProbeLocks x = Make.of("r-1 r-1 r-1 r-1 t1 t1 t1 t1 q0,0 q1,1 q2,2 q3,3 q0,3 q3,0 q1,2 q2,1 B1 p0 d1 B4");
        Check.latest("one that was missed is none", x, NONE, NONE, NONE);
        Make.on(x, "p3 d2");
        Check.latest("found", x, set(0, 3), 3, 3);
        Make.on(x, "p1 d2");
        Check.latest("found last", x, set(1, 2), 2, 1);
        Make.on(x, "u u u u u");
        Check.latest("not changed by undo()", x, set(1, 2), 2, 1);
        Make.on(x, "a1");
        Check.latest("not changed by abort()", x, set(1, 2), 2, 1);
        ProbeLocks two = Make.of("r-1 r-1 r-1 r-1 t1 t1 t1 t1 q0,0 q1,1 q2,2 q3,3 q0,3 q3,0 q1,2 q2,1 p3 p1 d99");
        Check.latest("two in one call, the last", two, set(1, 2), 2, 1);
        Check.due("two in one call", two.told(4), 2);
    }

    private static void bestVictims() {
        Doc.promise(29, "Finds the set of tasks with the least sum of costs such that no task lies on a cycle any more if those of "
                + "the set were aborted, all at once, before it is settled; of several the one with the fewest tasks, of these the "
                + "smallest bit mask.", "Returns the bit mask; 0 if no task lies on a cycle.");
        Check.due("nobody", new ProbeLocks().bestVictims(), 0);
        Check.due("no cycle", Make.of("r-1 t1 t1 q0,0 q1,0").bestVictims(), 0);
        Check.due("the least cost", Make.ring(5, 4, 3, 6).bestVictims(), set(2));
        Check.due("the smallest mask", Make.ring(9, 4, 4, 4).bestVictims(), set(1));
        Check.due("the last of ten", Make.ring(9, 9, 9, 9, 9, 9, 9, 9, 9, 8).bestVictims(), set(9));
        Check.due("the dearest costs", Make.ring(99, 99, 99, 99, 99, 99, 99, 99, 99, 99).bestVictims(), set(0));
        Check.due("nine of ten", Make.crowd(10).bestVictims(), 511);
        // The hub waits for both others, which wait for it.
        String hub = " q0,1 q1,2 q2,3 q0,3 q1,3 q2,0";
        String tree = "r-1 r0 r0 r-1 ";
        Check.due("two are cheaper", Make.of(tree + "t2 t3 t6" + hub).bestVictims(), set(0, 1));
        Check.due("of the same cost one, though its mask is greater", Make.of(tree + "t2 t3 t5" + hub).bestVictims(), set(2));
        Check.due("one is cheaper", Make.of(tree + "t2 t3 t4" + hub).bestVictims(), set(2));
        ProbeLocks behind = Make.ring(5, 5);
        Make.on(behind, "t1 q2,0");
        Check.due("not a cheaper one behind", behind.bestVictims(), set(0));
        ProbeLocks apart = Make.of("r-1 r-1 r-1 r-1 t3 t1 t2 t3 q0,0 q1,1 q2,2 q3,3 q0,3 q3,0 q1,2 q2,1");
        Check.due("one of each ring", apart.bestVictims(), set(0, 1));
        // 2 waits in front of 0 and 1, and would take what the victim leaves if it were settled in between.
        ProbeLocks before = Make.of("r-1 r-1 r-1 t5 t6 t1 t1 q0,0 q1,1 q3,2 q2,0 q0,1 q1,0");
        Check.due("before it is settled", before.bestVictims(), set(0));
    }

    private static void wouldEnd() {
        Doc.promise(30, "Counts the tasks that would end if, as long as there is a running task, the lowest one were finished; "
                + "nothing changes.", "Returns how many there are.");
        Check.due("nobody", new ProbeLocks().wouldEnd(), 0);
        Check.due("all ten", Make.of("t1 t1 t1 t1 t1 t1 t1 t1 t1 t1").wouldEnd(), 10);
        Check.due("nobody runs", Make.crowd(10).wouldEnd(), 0);
        Check.due("aborted ones do not run", Make.of("t1 t1 t1 a0 a2").wouldEnd(), 1);
        ProbeLocks chain = Make.holders(1, 1, 1, 1, 1, 1, 1, 1, 1, 1);
        for (int t = 0; t < 9; t++) {
            chain.request(t, t + 1);
        }
        long before = chain.checksum();
        Check.due("one after the other", chain.wouldEnd(), 10);
        Check.due("nothing changes", chain.checksum(), before);
        Check.due("once more", chain.wouldEnd(), 10);
        ProbeLocks behind = Make.ring(1, 1);
        Make.on(behind, "t1 q2,0 t1");
        Check.due("only what is not stuck", behind.wouldEnd(), 1);
        Check.due("nothing is counted", behind.told(7), 2);
        // 0 and 1 wait for the root; when 2 ends, 0 still waits for 1 and 1 for 0.
        ProbeLocks tree = Make.of("r-1 r0 r0 r0 t1 t1 t1 q0,1 q1,2 q2,3 q0,0 q1,0");
        Check.due("two are left in a ring", tree.wouldEnd(), 1);
        // 0 and 1 are in a ring, and 0 holds the root: 3 waits below it, 4 above what 1 holds.
        ProbeLocks near = Make.of("r-1 r0 r-1 r2 t1 t1 t1 t1 t1 q0,0 q1,3 q0,3 q1,0 q3,1 q4,2");
        Check.due("only the one that is free; those that wait below and above do not come to run", near.wouldEnd(), 1);
        near.abort(1);
        Check.due("all but the aborted one", near.wouldEnd(), 4);
    }

    // ---- scripts, undo

    private static void type() {
        Doc.promise(31, "Appends a character to the text.", "- `c`: its code, 32 to 126", "Returns the length of the text then.");
        ProbeLocks x = new ProbeLocks();
        for (int i = 1; i <= 120; i++) {
            Check.due("the length", x.type(i % 2 == 0 ? 32 : 126), i);
        }
        Check.badState("120 characters", () -> x.type(32));
        ProbeLocks y = new ProbeLocks();
        Check.type(y, "t9;");
        y.run();
        Check.due("what was typed is what is run", y.task(0, 1), 9);
        Check.due("it stays for more", y.type('t'), 4);
        y.undo();
        Check.due("it is not undone", y.type('8'), 5);
    }

    private static void clearText() {
        Doc.promise(32, "Empties the text.", "Returns the length that it had.");
        ProbeLocks x = new ProbeLocks();
        Check.due("empty", x.clearText(), 0);
        Check.type(x, "t1;x");
        Check.due("four", x.clearText(), 4);
        Check.due("none", x.clearText(), 0);
        Check.due("nothing is left of it", x.fault(), NONE);
        Check.due("nothing is run", x.run(), 0);
        Check.type(x, "t2;");
        Check.due("only what came later is run", x.run(), 1);
        Check.due("its cost", x.task(0, 1), 2);
        Check.due("full", Make.full().clearText(), 120);
    }

    private static void fault() {
        Doc.promise(33, "Returns the fault of the text.", "Returns the fault, an index from 0; NONE if the text is a script.");
        ProbeLocks x = new ProbeLocks();
        int[] due = {1, 2, NONE, 4, 5, 6, 7, NONE, 8, 8, 8};
        String text = "t1;q1,2;;t1";
        Check.due("an empty text", x.fault(), NONE);
        for (int i = 0; i < text.length(); i++) {
            x.type(text.charAt(i));
            Check.due("of '" + text.substring(0, i + 1) + "'", x.fault(), due[i]);
        }
        x.clearText();
        x.type('x');
        Check.due("the first character", x.fault(), 0);
    }

    private static int runOf(ProbeLocks x, String text) {
        Check.script(x, text);
        return x.run();
    }

    private static void run() {
        Doc.promise(34, "Carries out the script of the text, which stays.", "Returns the number of commands that were not skipped.");
        ProbeLocks x = Make.of("r-1 r-1");
        Check.due("all", runOf(x, "t9;t8;q0,0;q1,1;q1,0;q0,1;p1;d2;"), 8);
        Check.latest("it was carried out", x, set(0, 1), 1, 1);
        Check.due("it stays", x.clearText(), 32);
        Doc.promise(34, "A command whose call would throw an exception is skipped.");
        ProbeLocks y = Make.of("r-1 r-1 t1 t1 t1 q0,0 q1,0 a2");
        String[] skipped = {"t0;", "t00;", "q3,0;", "q10,0;", "q0,2;", "q0,16;", "q0,99;", "q1,1;", "q2,1;", "l0,1;", "l1,0;", "l3,0;",
            "l0,2;", "l0,99;", "l99,0;", "f1;", "f2;", "f3;", "f10;", "f99;", "a2;", "a3;", "a32;", "b0;", "b1;", "b3;", "b99;",
            "p0;", "p2;", "p3;", "p99;", "d0;", "d00;"};
        long before = Make.of("r-1 r-1 t1 t1 t1 q0,0 q1,0 a2").checksum();
        for (String command : skipped) {
            Check.due("skipped: " + command, runOf(y, command), 0);
            y.clearText();
            Check.due("nothing is changed by " + command, y.checksum(), before);
        }
        Check.due("those before and after are not", runOf(y, "q0,1;q0,5;f1;a0;q9,9;f1;"), 3);
        ProbeLocks ten = new ProbeLocks();
        Check.due("ten tasks and no more", runOf(ten, "t1;".repeat(12)), 10);
        Check.due("a full text", runOf(new ProbeLocks(), "d1;".repeat(40)), 40);
        Doc.promise(34, "All of it is one undoable change (also if all commands are skipped, or there are none).");
        ProbeLocks z = new ProbeLocks();
        runOf(z, "t1;t2;t3;t4;t5;t6;t7;");
        Check.due("one record", z.undo(), 0);
        Check.due("all is undone", z.tasks(), 0);
        z.create(1);
        Check.due("the serial numbers too", z.task(0, 2), 1);
        Check.due("all are skipped", runOf(z, "f9;d0;"), 0);
        Check.due("a record all the same", z.undo(), 1);
        Check.due("there are none", runOf(z, ""), 0);
        Check.due("a record all the same", z.undo(), 1);
        Check.due("the task is still there", z.tasks(), 1);
    }

    private static void undo() {
        Doc.promise(35, "Restores the latest record and removes it.", "Returns how many records are left.");
        ProbeLocks x = Make.of("t1 t2 r-1 P1 R1 B1");
        Check.due("four", x.undo(), 4);
        Check.due("the budget", x.setBudget(2), 4);
        Check.due("four", x.undo(), 4);
        Check.due("three", x.undo(), 3);
        Check.due("two", x.undo(), 2);
        Check.due("the policy", x.setPolicy(2), 0);
        Check.due("two", x.undo(), 2);
        Check.due("one", x.undo(), 1);
        Check.due("the resource", x.resources(), 0);
        Check.due("none", x.undo(), 0);
        Check.due("the first call's record was dropped", x.tasks(), 1);
        Check.badState("there is none", () -> x.undo());
        Check.due("undo() is not undoable", Make.of("t1 u t1 u t1 t1").undo(), 1);
    }

    private static void checksum() {
        Doc.promise(36, "Computes a checksum.", "It starts with h = 18547, and for each of the following numbers v, in order, h becomes "
                + "31 * h + v (long arithmetic that wraps): the number of resources, and the parent of each; tasks(); for each task "
                + "the results of task() for 0 to 6; the policy, the rule, the budget; the number of messages that are not delivered "
                + "yet, and for each of them the results of message() for 0 to 4; onCycles(); stuck(); the length of the text; "
                + "the number of records.", "Returns the checksum.");
        Check.due("a new object", new ProbeLocks().checksum(), sum(new ProbeLocks(), 0, 0, 4, 0, 0));
        ProbeLocks rich = Make.rich();
        Check.due("a rich object", rich.checksum(), sum(rich, 2, 1, 5, 10, 5));
        Check.due("a rich object, once more", rich.checksum(), sum(rich, 2, 1, 5, 10, 5));
        ProbeLocks other = Make.ring(1, 2, 3);
        Make.on(other, "p0 d1 P1 R2 B7 u");
        Check.due("another one", other.checksum(), sum(other, 1, 2, 4, 0, 4));
        ProbeLocks full = Make.full();
        Check.due("a full object", full.checksum(), sum(full, 0, 0, 4, 120, 5));
    }

    /** The settings, the length of the text and the number of records are told, for they cannot be asked for. */
    private static long sum(ProbeLocks x, int policy, int rule, int budget, int length, int records) {
        int resources = x.resources();
        long h = 31 * 18547L + resources;
        for (int r = 0; r < resources; r++) {
            h = 31 * h + x.resource(r, 0);
        }
        int tasks = x.tasks();
        h = 31 * h + tasks;
        for (int t = 0; t < 10; t++) {
            for (int what = 0; what <= 6 && (tasks >> t & 1) != 0; what++) {
                h = 31 * h + x.task(t, what);
            }
        }
        h = 31 * (31 * (31 * h + policy) + rule) + budget;
        int messages = x.messages();
        h = 31 * h + messages;
        for (int k = 0; k < messages; k++) {
            for (int what = 0; what <= 4; what++) {
                h = 31 * h + x.message(k, what);
            }
        }
        h = 31 * (31 * h + x.onCycles()) + x.stuck();
        return 31 * (31 * h + length) + records;
    }

    private static void looked(String name, RefusedEdges.Use call) {
        looked(name, Make::rich, call);
        looked(name, Make::full, call);
    }

    private static void looked(String name, RefusedEdges.Setup setup, RefusedEdges.Use call) {
        ProbeLocks x = setup.make();
        ProbeLocks y = setup.make();
        long first = call.on(x);
        Check.due(name + " answers the same again", call.on(x), first);
        call.on(y);
        Check.due(name + " changes nothing", View.back(x), View.back(setup.make()));
        Check.due(name + " changes nothing for later", View.onward(y), View.onward(setup.make()));
    }

    /** No promise of a question says that it is undoable, or that it changes anything. */
    private static void lookingChangesNothing() {
        Doc.promise(30, "nothing changes.");
        looked("resources()", x -> x.resources());
        for (int what = 0; what <= 4; what++) {
            int w = what;
            looked("resource(1, " + w + ")", x -> x.resource(1, w));
            looked("message(0, " + w + ")", x -> x.message(0, w));
        }
        looked("overlap(0, 1)", x -> x.overlap(0, 1) ? 1 : 0);
        looked("tasks()", x -> x.tasks());
        for (int what = 0; what <= 6; what++) {
            int w = what;
            looked("task(1, " + w + ")", x -> x.task(1, w));
        }
        looked("waiting(0)", x -> x.waiting(0));
        looked("messages()", x -> x.messages());
        looked("told(0)", x -> x.told(0));
        looked("onCycles()", x -> x.onCycles());
        looked("stuck()", x -> x.stuck());
        looked("shortestCycle(1)", x -> x.shortestCycle(1));
        looked("cycles()", x -> x.cycles());
        looked("latest(0)", x -> x.latest(0));
        looked("bestVictims()", x -> x.bestVictims());
        looked("wouldEnd()", x -> x.wouldEnd());
        looked("fault()", x -> x.fault());
        looked("checksum()", x -> x.checksum());
        looked("wouldEnd() when somebody ends", () -> Make.of("r-1 t1 t1 q0,0 q1,0"), x -> x.wouldEnd());
        for (int resource = 0; resource < 6; resource++) {
            int r = resource;
            looked("wouldHappen(0, " + r + ")", Make::rich, x -> x.wouldHappen(0, r));
            looked("wouldHappen(5, " + r + ")", Make::rich, x -> x.wouldHappen(5, r));
        }
        for (int policy = 0; policy <= 2; policy++) {
            String setup = "r-1 t1 t1 t1 q1,0 P" + policy;
            looked("an older one, policy " + policy, () -> Make.of(setup), x -> x.wouldHappen(0, 0));
            looked("a younger one, policy " + policy, () -> Make.of(setup), x -> x.wouldHappen(2, 0));
        }
    }
}

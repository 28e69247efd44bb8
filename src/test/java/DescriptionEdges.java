/** The sentences of the Description on resources, tasks, requests, scripts, undo and exceptions, at their edges. */
final class DescriptionEdges {
    private static final int NONE = ProbeLocks.NONE;
    private static final int RUNNING = 0;
    private static final int WAITING = 1;
    private static final int ABORTED = 2;

    private DescriptionEdges() {
    }

    static void all() {
        sixteenResources();
        parents();
        overlaps();
        tenTasks();
        costSerialAndState();
        order();
        holdersInTheWay();
        waitsFor();
        grant();
        settle();
        abort();
        nothingHappens();
        grantedIfFree();
        policyWait();
        policyWaitOrDie();
        policyWoundOrWait();
        endOfTheOrder();
        settledAfterAll();
        textBuffer();
        commands();
        numbers();
        noSpaces();
        faults();
        records();
        restoresEverything();
        fiveRecords();
        latestRecordFirst();
        countsStay();
        exceptions();
        noneAndTheFace();
    }

    static int set(int... members) {
        int mask = 0;
        for (int m : members) {
            mask |= 1 << m;
        }
        return mask;
    }

    // ---- resources

    private static void sixteenResources() {
        Doc.description("There are at most 16 resources, numbered from 0 in the order in which they were created.");
        ProbeLocks x = new ProbeLocks();
        for (int r = 0; r < 16; r++) {
            Check.due("its number", x.addResource(r % 3 == 0 ? NONE : r / 2), r);
        }
        Check.badState("a seventeenth", () -> x.addResource(NONE));
        Check.badState("a seventeenth below another", () -> x.addResource(15));
        Check.due("sixteen", x.resources(), 16);
        x.undo();
        Check.due("there is room for one", x.addResource(3), 15);
        Check.badState("full again", () -> x.addResource(NONE));
    }

    private static final int[] FOREST = {NONE, 0, 1, NONE, 0, 3, 5, 6, 2, 0, NONE, 9, 9, 12, 3, 14};

    private static ProbeLocks forest() {
        ProbeLocks x = new ProbeLocks();
        for (int parent : FOREST) {
            x.addResource(parent);
        }
        return x;
    }

    private static void parents() {
        Doc.description("A resource has a parent, which is a resource with a smaller number, or none.");
        ProbeLocks x = new ProbeLocks();
        for (int r = 0; r < 16; r++) {
            int own = r;
            Check.noThing("its own number " + r, () -> x.addResource(own));
            Check.noThing("a greater number", () -> x.addResource(own + 1));
            Check.noThing("the greatest number", () -> x.addResource(15));
            x.addResource(FOREST[r]);
        }
        for (int r = 0; r < 16; r++) {
            Check.due("parent of " + r, x.resource(r, 0), FOREST[r]);
        }
        ProbeLocks chain = new ProbeLocks();
        for (int r = 0; r < 16; r++) {
            Check.due("below the one before", chain.addResource(r - 1), r);
            Check.due("its parent", chain.resource(r, 0), r - 1);
        }
    }

    private static boolean isAbove(int one, int other) {
        for (int r = FOREST[other]; r != NONE; r = FOREST[r]) {
            if (r == one) {
                return true;
            }
        }
        return false;
    }

    private static void overlaps() {
        Doc.description("Two resources overlap if they are the same, or one of them is an ancestor of the other "
                + "(its parent, the parent of its parent, and so on).");
        ProbeLocks x = forest();
        for (int a = 0; a < 16; a++) {
            for (int b = 0; b < 16; b++) {
                boolean due = a == b || isAbove(a, b) || isAbove(b, a);
                Check.due("overlap " + a + ", " + b, x.overlap(a, b), due);
            }
        }
        ProbeLocks chain = Make.of("r-1 r0 r1 r2 r3 r4 r5 r6 r7 r8 r9 r10 r11 r12 r13 r14");
        for (int r = 0; r < 16; r++) {
            Check.due("the first and " + r, chain.overlap(0, r), true);
            Check.due("the last and " + r, chain.overlap(15, r), true);
            Check.due(r + " and the last", chain.overlap(r, 15), true);
        }
    }

    // ---- tasks

    private static void tenTasks() {
        Doc.description("There are at most 10 tasks, numbered from 0; a new task gets the lowest number that is free.");
        ProbeLocks x = new ProbeLocks();
        for (int t = 0; t < 10; t++) {
            Check.due("its number", x.create(1), t);
        }
        Check.badState("an eleventh", () -> x.create(1));
        x.finish(9);
        Check.due("the last place", x.create(1), 9);
        Check.due("the refused one has used no serial number up", x.task(9, 2), 11);
        Make.on(x, "f5 f0 f7");
        Check.due("the lowest of three", x.create(1), 0);
        Check.due("the lowest of two", x.create(1), 5);
        Check.due("the one that is left", x.create(1), 7);
        x.abort(4);
        Check.badState("an aborted one keeps its number", () -> x.create(1));
        Make.on(x, "b4 f4");
        Check.due("until it is finished", x.create(1), 4);
        Check.due("ten", x.tasks(), 1023);
    }

    private static void costSerialAndState() {
        Doc.description("A task has a cost (1 to 99), a serial number (1 for the first task that is created, then 1 more "
                + "each time; the one with the smaller serial number is older), a set of resources that it holds, "
                + "and a state: 0 running, 1 waiting (for one resource), 2 aborted.");
        ProbeLocks x = Make.of("t1 t99");
        Check.task("the first", x, 0, RUNNING, 1, 1, 0, NONE, 0, NONE);
        Check.task("the second", x, 1, RUNNING, 99, 2, 0, NONE, 0, NONE);
        Check.badValue("cost 0", () -> x.create(0));
        Check.badValue("cost 100", () -> x.create(100));
        Make.on(x, "t2 f2 t3");
        Check.task("a refused one uses no number up, a finished one does", x, 2, RUNNING, 3, 4);
        Make.on(x, "a0 b0");
        Check.task("the same after abort and restart", x, 0, RUNNING, 1, 1);
        Make.on(x, "f0 t7 r-1 r-1 r-1 q0,0 q1,1 q1,2 P1");
        Check.task("one more", x, 0, RUNNING, 7, 5, set(0));
        Check.due("1 is older than 0", x.request(1, 0), WAITING);
        Check.task("it waits for one resource", x, 1, WAITING, 99, 2, set(1, 2), 0, set(0), 0);
        Check.due("0 is younger than 1", x.request(0, 1), ABORTED);
        Check.task("it is aborted", x, 0, ABORTED, 7, 5, 0, NONE, 0, NONE);
        Check.task("so that the other one runs", x, 1, RUNNING, 99, 2, set(0, 1, 2), NONE, 0, NONE);
    }

    private static void order() {
        Doc.description("Waiting tasks are in the order in which they began to wait.");
        ProbeLocks x = Make.of("r-1 t1 t1 t1 t1 t1 q2,0");
        Check.order("nobody", x);
        Make.on(x, "q4,0 q1,0 q3,0 q0,0");
        Check.order("as they came", x, 4, 1, 3, 0);
        Make.on(x, "a1 b1");
        Check.order("one left", x, 4, 3, 0);
        Check.due("the last one's position", x.task(0, 6), 2);
        x.request(1, 0);
        Check.order("it came again", x, 4, 3, 0, 1);
        ProbeLocks all = Make.crowd(10);
        Check.order("all ten", all, 0, 1, 2, 3, 4, 5, 6, 7, 8, 9);
        Make.on(all, "a0 b0 q0,1 q0,0");
        Check.order("all ten again", all, 1, 2, 3, 4, 5, 6, 7, 8, 9, 0);
    }

    private static void holdersInTheWay() {
        Doc.description("The holders in the way of a task and a resource are the other tasks that hold a resource "
                + "that overlaps it.");
        for (int held = 0; held < 16; held++) {
            for (int asked = 0; asked < 16; asked++) {
                ProbeLocks x = forest();
                Make.on(x, "t1 t1 t1 q1," + held);
                boolean isInWay = x.overlap(held, asked);
                Check.due(held + " is held, " + asked + " is asked for", x.request(2, asked), isInWay ? WAITING : RUNNING);
                Check.due("in the way", x.task(2, 5), isInWay ? set(1) : 0);
            }
        }
        ProbeLocks own = Make.of("r-1 r0 r0 t1 t1 q0,1");
        Check.due("not a task itself", own.request(0, 0), RUNNING);
        ProbeLocks both = Make.of("r-1 r0 r0 t1 t1 q0,1 q1,2 q0,0");
        Check.due("the other one alone", both.task(0, 5), set(1));
        ProbeLocks states = Make.of("r-1 r0 r0 r0 r-1 t1 t1 t1 t1 t1 q0,1 q1,2 q2,3 q3,4 q0,4 a2 q4,0");
        Check.due("one that waits and one that runs, none that is aborted", states.task(4, 5), set(0, 1));
    }

    private static void waitsFor() {
        Doc.description("A waiting task waits for the holders in the way of it and its resource.");
        ProbeLocks x = Make.of("r-1 r0 r0 r0 t1 t1 t1 t1 q0,1 q1,2 q2,0");
        Check.due("both", x.task(2, 5), set(0, 1));
        x.request(3, 3);
        Check.due("and one that came later", x.task(2, 5), set(0, 1, 3));
        x.release(0, 1);
        Check.due("not one that has released", x.task(2, 5), set(1, 3));
        x.request(0, 1);
        Check.due("again", x.task(2, 5), set(0, 1, 3));
        x.request(1, 0);
        Check.due("not one that only waits", x.task(1, 5), set(0, 3));
        Check.due("a running one waits for nobody", x.task(0, 5), 0);
    }

    private static void grant() {
        Doc.description("To grant a resource to a task means: it is held by the task, which is running then.");
        ProbeLocks x = Make.of("r-1 r-1 r-1 t1 t1 q0,0 q0,1 q1,2");
        Check.task("by a request", x, 0, RUNNING, 1, 1, set(0, 1), NONE, 0, NONE);
        x.request(1, 0);
        Check.task("it waits", x, 1, WAITING, 1, 2, set(2), 0, set(0), 0);
        x.release(0, 0);
        Check.task("by settling", x, 1, RUNNING, 1, 2, set(0, 2), NONE, 0, NONE);
        Check.due("the holder", x.resource(0, 3), 1);
        Check.due("it may go on", x.request(1, 1), WAITING);
    }

    private static void settle() {
        Doc.description("To settle means: the first waiting task, in their order, that waits for nobody is granted its "
                + "resource and leaves the order; this is done again and again, until each waiting task waits for somebody.");
        ProbeLocks first = Make.of("r-1 t1 t1 t1 t1 q0,0 q3,0 q1,0 q2,0 f0");
        Check.due("the first in the order, not the lowest", first.task(3, 3), set(0));
        Check.order("the others stay", first, 1, 2);
        Make.on(first, "f3");
        Check.order("the next", first, 2);
        ProbeLocks many = Make.of("r-1 r-1 r-1 t1 t1 t1 t1 t1 q0,0 q0,1 q0,2 q1,2 q4,2 q2,0 q3,1 f0");
        Check.due("again", many.task(1, 3), set(2));
        Check.due("and again", many.task(2, 3), set(0));
        Check.due("and again", many.task(3, 3), set(1));
        Check.task("until each waits for somebody", many, 4, WAITING, 1, 5, 0, 2, set(1), 0);
        Check.due("granted", many.told(7), 6);
        ProbeLocks over = Make.of("r-1 r0 r0 t1 t1 t1 t1 q0,1 q1,2 q2,0 q3,1 l0,1");
        Check.due("one that waits for somebody is passed over", over.task(2, 0), WAITING);
        Check.due("one behind it waits for nobody", over.task(3, 3), set(1));
        Check.order("who is left", over, 2);
        ProbeLocks blocks = Make.of("r-1 r0 r0 t1 t1 t1 t1 q0,0 q1,1 q2,0 q3,2 f0");
        Check.due("the first", blocks.task(1, 3), set(1));
        Check.due("it stands in the way of the second", blocks.task(2, 5), set(1, 3));
        Check.due("but not of the third", blocks.task(3, 3), set(2));
        ProbeLocks all = Make.of("r-1 r0 r0 r0 r0 r0 r0 r0 r0 r0 t1 t1 t1 t1 t1 t1 t1 t1 t1 t1 q9,0"
                + " q0,1 q1,2 q2,3 q3,4 q4,5 q5,6 q6,7 q7,8 q8,9 f9");
        Check.order("nine at once", all);
        Check.due("nine at once", all.resource(0, 4), 511);
    }

    private static void abort() {
        Doc.description("To abort a task means: it does not hold or wait for any resource any more, and is aborted.");
        ProbeLocks x = Make.of("r-1 r-1 r-1 t5 t6 t7 q0,0 q0,1 q1,2 q2,2 q0,2 a0");
        Check.task("it held and waited", x, 0, ABORTED, 5, 1, 0, NONE, 0, NONE);
        Check.due("nobody holds it", x.resource(0, 3), NONE);
        Check.due("nobody holds the other one", x.resource(1, 4), 0);
        Check.order("it left the order", x, 2);
        x.abort(1);
        Check.task("it held and ran", x, 1, ABORTED, 6, 2, 0, NONE, 0, NONE);
        Make.on(x, "b0 q0,2 a0");
        Check.task("it waited and held nothing", x, 0, ABORTED, 5, 1, 0, NONE, 0, NONE);
        Check.order("it left the order", x);
    }

    // ---- requests

    private static void nothingHappens() {
        Doc.description("When a running task requests a resource that is, or lies below, a resource that it holds, "
                + "nothing happens.");
        for (int policy = 0; policy <= 2; policy++) {
            ProbeLocks x = Make.of("r-1 r0 r1 r2 r1 t1 t1 q0,1 q1,0 P" + policy);
            long before = x.checksum();
            for (int r = 1; r <= 4; r++) {
                Check.due("policy " + policy + ", would happen with " + r, x.wouldHappen(0, r), 0);
                Check.due("policy " + policy + ", request of " + r, x.request(0, r), RUNNING);
                Check.task("nothing more is held", x, 0, RUNNING, 1, 1, set(1), NONE, 0, NONE);
                Check.due("nothing is changed", x.checksum(), before);
            }
            Check.told("nothing is granted, nobody aborted", x, 0, 0, 0, 0, 0, 0, 0, 1);
            Check.due("what lies above is another thing", x.request(0, 0), RUNNING);
            Check.due("it is granted", x.task(0, 3), set(0, 1));
            Check.due("granted", x.told(7), 2);
        }
        ProbeLocks near = Make.of("r-1 r0 r0 t1 q0,1 q0,2");
        Check.due("beside it is another thing", near.task(0, 3), set(1, 2));
    }

    private static void grantedIfFree() {
        Doc.description("Otherwise, if there are no holders in the way, it is granted.");
        for (int policy = 0; policy <= 2; policy++) {
            ProbeLocks x = Make.of("r-1 r0 r0 r-1 t1 t1 t1 q1,1 q0,0 P" + policy);
            Check.due("would happen", x.wouldHappen(2, 2), 0);
            Check.due("an older one waits for what is above, but does not hold it", x.request(2, 2), RUNNING);
            Check.task("it has it", x, 2, RUNNING, 1, 3, set(2), NONE, 0, NONE);
            Check.task("the older one waits for it now", x, 0, WAITING, 1, 1, 0, 0, set(1, 2), 0);
            Check.due("another tree", x.request(2, 3), RUNNING);
            Check.due("it has both", x.task(2, 3), set(2, 3));
            Check.told("nobody is aborted", x, 0, 0, 0, 0, 0, 0, 0, 3);
        }
    }

    private static void policyWait() {
        Doc.description("Otherwise it depends on the policy:", "0 wait: it waits.");
        ProbeLocks x = Make.of("r-1 t1 t1 t1 q1,0");
        Check.due("would happen", x.wouldHappen(0, 0), 1);
        Check.due("an older one", x.request(0, 0), WAITING);
        Check.due("a younger one", x.request(2, 0), WAITING);
        Check.due("the holder runs", x.task(1, 0), RUNNING);
        Check.due("nobody is aborted", x.told(6), 0);
    }

    private static void policyWaitOrDie() {
        Doc.description("1 wait or die: if it is older than all holders in the way, it waits.", "Otherwise it is aborted.");
        String tree = "r-1 r0 r0 r-1 t1 t1 t1 t1 P1 ";
        ProbeLocks oldest = Make.of(tree + "q1,1 q2,2");
        Check.due("older than both would wait", oldest.wouldHappen(0, 0), 1);
        Check.due("older than both", oldest.request(0, 0), WAITING);
        Check.due("younger than both would be aborted", oldest.wouldHappen(3, 0), 2);
        Check.due("younger than both", oldest.request(3, 0), ABORTED);
        Check.due("nobody else", oldest.told(6), 1);
        ProbeLocks between = Make.of(tree + "q0,1 q2,2 q1,3");
        Check.due("older than one alone would be aborted", between.wouldHappen(1, 0), 2);
        Check.due("older than one alone", between.request(1, 0), ABORTED);
        Check.task("what it held is gone", between, 1, ABORTED, 1, 2, 0, NONE, 0, NONE);
        ProbeLocks turned = Make.of(tree + "q0,2 q2,1");
        Check.due("the other way round", turned.request(1, 0), ABORTED);
        ProbeLocks own = Make.of(tree + "q1,1 q2,2");
        Check.due("what it holds itself is not in the way", own.request(1, 0), WAITING);
        Check.due("younger than the other one", own.request(2, 0), ABORTED);
    }

    private static void policyWoundOrWait() {
        Doc.description("2 wound or wait: all holders in the way that are younger than it are aborted.",
                "If there are no holders in the way then, it is granted; otherwise it waits.");
        String tree = "r-1 r0 r0 r0 r-1 r-1 t1 t1 t1 t1 t1 P2 ";
        ProbeLocks younger = Make.of(tree + "q1,5 q2,1 q3,2 q4,4 q3,5");
        Check.order("3 waits", younger, 3);
        Check.due("would happen", younger.wouldHappen(0, 0), 3);
        Check.due("all are younger", younger.request(0, 0), RUNNING);
        Check.task("it has it", younger, 0, RUNNING, 1, 1, set(0), NONE, 0, NONE);
        Check.task("aborted", younger, 2, ABORTED, 1, 3, 0, NONE, 0, NONE);
        Check.task("aborted, though it waited", younger, 3, ABORTED, 1, 4, 0, NONE, 0, NONE);
        Check.task("not in the way, not aborted", younger, 4, RUNNING, 1, 5, set(4), NONE, 0, NONE);
        Check.due("two", younger.told(6), 2);
        ProbeLocks mixed = Make.of(tree + "q0,1 q2,2 q3,3");
        Check.due("would happen", mixed.wouldHappen(1, 0), 4);
        Check.due("an older one is left", mixed.request(1, 0), WAITING);
        Check.task("it waits for that one", mixed, 1, WAITING, 1, 2, 0, 0, set(0), 0);
        Check.due("the younger ones are aborted", mixed.task(2, 0) + mixed.task(3, 0), 2 * ABORTED);
        ProbeLocks older = Make.of(tree + "q0,1 q1,2");
        Check.due("would happen", older.wouldHappen(2, 0), 1);
        Check.due("all are older", older.request(2, 0), WAITING);
        Check.due("it waits for both", older.task(2, 5), set(0, 1));
        Check.due("nobody is aborted", older.told(6), 0);
        ProbeLocks own = Make.of(tree + "q1,1 q2,2");
        Check.due("what it holds itself is not in the way", own.request(1, 0), RUNNING);
        Check.due("it keeps it", own.task(1, 3), set(0, 1));
    }

    private static void endOfTheOrder() {
        Doc.description("(A task that waits comes to the end of the order.)");
        Check.order("policy 0", Make.of("r-1 t1 t1 t1 t1 q1,0 q3,0 q0,0 q2,0"), 3, 0, 2);
        Check.order("policy 1", Make.of("r-1 t1 t1 t1 t1 P1 q3,0 q2,0 q0,0 q1,0"), 2, 0, 1);
        Check.order("policy 2", Make.of("r-1 t1 t1 t1 t1 P2 q0,0 q3,0 q1,0 q2,0"), 3, 1, 2);
    }

    private static void settledAfterAll() {
        Doc.description("After all that, if a task was aborted by the request, it is settled.");
        ProbeLocks dies = Make.of("r-1 r-1 r-1 t1 t1 t1 P1 q2,1 q2,2 q0,1 q1,0");
        Check.order("0 waits", dies, 0);
        Check.due("2 is aborted by its own request", dies.request(2, 0), ABORTED);
        Check.task("and 0 has what it waited for", dies, 0, RUNNING, 1, 1, set(1), NONE, 0, NONE);
        Check.due("granted", dies.told(7), 4);
        ProbeLocks takes = Make.of("r-1 t1 t1 t1 t1 q2,0 q3,0 q1,0 P2");
        Check.due("it takes it before it is settled", takes.request(0, 0), RUNNING);
        Check.due("it has it", takes.task(0, 3), set(0));
        Check.order("those that waited for it wait still", takes, 3, 1);
        Check.due("granted", takes.told(7), 2);
        ProbeLocks waits = Make.of("r-1 r0 r0 r-1 t1 t1 t1 t1 q0,1 q2,2 q2,3 q3,2 P2");
        Check.due("2 is aborted, 0 is left", waits.request(1, 0), WAITING);
        Check.due("3 stood before it in the order", waits.task(3, 3), set(2));
        Check.task("so that it waits for both", waits, 1, WAITING, 1, 2, 0, 0, set(0, 3), 0);
        Check.due("the other resource is free", waits.resource(3, 3), NONE);
        Check.due("granted", waits.told(7), 4);
    }

    // ---- scripts

    private static void textBuffer() {
        Doc.description("The text buffer holds at most 120 characters with codes from 32 to 126.");
        ProbeLocks x = new ProbeLocks();
        for (int c = 32; c <= 126; c++) {
            Check.due("code " + c, x.type(c), c - 31);
        }
        for (int i = 96; i <= 120; i++) {
            Check.due("character " + i, x.type('t'), i);
        }
        Check.badState("one more", () -> x.type('t'));
        Check.badValue("code 31", () -> x.type(31));
        Check.badValue("code 127", () -> x.type(127));
        Check.due("as many as before", x.clearText(), 120);
        Check.badValue("code 31", () -> x.type(31));
        Check.badValue("code 127", () -> x.type(127));
        Check.due("room again", x.type('t'), 1);
    }

    /** A script does what the call does: the other manager has the text too, and makes the call. */
    private static void does(String text, RefusedEdges.Use call) {
        ProbeLocks x = Make.rich();
        ProbeLocks y = Make.rich();
        Check.script(x, text);
        Check.script(y, text);
        Check.due("run of " + text, x.run(), 1);
        call.on(y);
        Check.due(text + " does the same", View.back(x), View.back(y));
    }

    private static void commands() {
        Doc.description("A script consists of commands, perhaps none, each of which is a letter, followed by numbers that "
                + "are separated by \",\", and \";\":");
        ProbeLocks none = new ProbeLocks();
        Check.due("no command", none.fault(), NONE);
        Check.due("no command", none.run(), 0);
        for (String text : new String[] {"1", ";", ",", "t,", "t;", "t1,", "t1,2;", "q1;", "q,1;", "q1,2,", "q1;2;", "t1t"}) {
            ProbeLocks x = new ProbeLocks();
            Check.type(x, text);
            Check.due("'" + text + "' is none", x.fault() != NONE, true);
        }
        Doc.description("t cost: create() q task,resource: request() l task,resource: release()");
        does("t42;", x -> x.create(42));
        does("q5,4;", x -> x.request(5, 4));
        does("q0,1;", x -> x.request(0, 1));
        does("l0,4;", x -> x.release(0, 4));
        does("l1,3;", x -> x.release(1, 3));
        Doc.description("f task: finish() a task: abort() b task: restart()");
        does("f0;", x -> x.finish(0));
        does("a1;", x -> x.abort(1));
        does("b3;", x -> x.restart(3));
        Doc.description("p task: probe() d n: deliver()");
        does("p6;", x -> x.probe(6));
        does("d1;", x -> x.deliver(1));
        does("d99;", x -> x.deliver(99));
    }

    private static void fault(String text, int due) {
        ProbeLocks x = new ProbeLocks();
        Check.type(x, text);
        Check.due("fault of '" + text + "'", x.fault(), due);
    }

    private static void numbers() {
        Doc.description("A number is a sequence of 1 or 2 digits, as long as possible (a third digit is not allowed).");
        does("t7;", x -> x.create(7));
        does("t07;", x -> x.create(7));
        does("t70;", x -> x.create(70));
        does("t99;", x -> x.create(99));
        does("q05,04;", x -> x.request(5, 4));
        does("q5,04;", x -> x.request(5, 4));
        for (int d = 0; d <= 9; d++) {
            fault("t" + d + ";", NONE);
            fault("t9" + d + ";", NONE);
            fault("t" + d + "9;", NONE);
            fault("t00" + d + ";", 3);
            fault("q1,12" + d + ";", 5);
            fault("q12" + d + ",1;", 3);
        }
        fault("t;", 1);
        fault("q,1;", 1);
        fault("q1,;", 3);
        fault("t/;", 1);
        fault("t:;", 1);
        fault("t1/;", 2);
        fault("t1:;", 2);
    }

    private static void noSpaces() {
        Doc.description("There are no spaces.");
        String text = "q10,12;";
        for (int i = 0; i <= text.length(); i++) {
            fault(text.substring(0, i) + " " + text.substring(i), i);
        }
        fault(" ", 0);
    }

    private static void faults() {
        Doc.description("The fault of the text is the index of the first character that is not allowed at its place; "
                + "it is the length of the text if the text ends too early.");
        String text = "t1;q10,2;l3,45;f6;a7;b8;p9;d99;";
        for (int i = 0; i <= text.length(); i++) {
            boolean isScript = i == 0 || text.charAt(i - 1) == ';';
            fault(text.substring(0, i), isScript ? NONE : i);
            if (i < text.length()) {
                fault(text.substring(0, i) + "#" + text.substring(i + 1), i);
                fault(text.substring(0, i) + "#x;" + text.substring(i + 1), i);
            }
        }
        for (int c = 32; c <= 126; c++) {
            char sign = (char) c;
            fault(sign + "1;", "tfabpd".indexOf(c) >= 0 ? NONE : "ql".indexOf(c) >= 0 ? 2 : 0);
            fault(sign + "1,2;", "tfabpd".indexOf(c) >= 0 ? 2 : "ql".indexOf(c) >= 0 ? NONE : 0);
            boolean isDigit = c >= '0' && c <= '9';
            fault("t" + sign, isDigit ? 2 : 1);
            fault("t1" + sign, c == ';' ? NONE : isDigit ? 3 : 2);
            fault("t12" + sign, c == ';' ? NONE : 3);
            fault("q1" + sign, isDigit || c == ',' ? 3 : 2);
            fault("q12" + sign, c == ',' ? 4 : 3);
            fault("q1," + sign, isDigit ? 4 : 3);
            fault("q1,2" + sign, c == ';' ? NONE : isDigit ? 5 : 4);
            fault("q1,23" + sign, c == ';' ? NONE : 5);
        }
        fault("d1;".repeat(40), NONE);
        fault("d1;".repeat(39) + "d12", 120);
        fault("d1;".repeat(39) + "d1,", 119);
    }

    // ---- undo

    private interface Undoable {
        int on(ProbeLocks x);
    }

    /** The call leaves a record of what was before it, and nothing of the call is left when it is undone. */
    private static void undone(String name, Undoable call) {
        ProbeLocks x = Make.rich();
        ProbeLocks y = Make.rich();
        x.type(';');
        y.type(';');
        x.undo();
        y.undo();
        call.on(x);
        Check.due(name + " left one record", x.undo(), 4);
        Check.due(name + " is undone", x.checksum(), y.checksum());
        Check.due(name + ", the same messages", x.deliver(99), y.deliver(99));
        Check.due(name + ", they come to the same", x.checksum(), y.checksum());
        x.undo();
        y.undo();
        Check.due(name + ", the next serial number", x.task(x.create(1), 2), y.task(y.create(1), 2));
        for (int left = 4; left >= 0; left--) {
            Check.due(name + ", earlier records", x.undo(), left);
            y.undo();
            Check.due(name + ", earlier records", x.checksum(), y.checksum());
        }
    }

    private static void records() {
        Doc.description("Every method that is marked \"undoable\" records the resources, the tasks, their order, the policy, "
                + "the rule, the budget, the messages and the next serial number, as they were before the call, "
                + "when it ends normally.");
        undone("addResource", x -> x.addResource(3));
        undone("create", x -> x.create(1));
        undone("request, granted", x -> x.request(5, 5));
        undone("request, it waits", x -> x.request(5, 4));
        undone("request, nothing happens", x -> x.request(0, 4));
        undone("release", x -> x.release(0, 4));
        undone("release by one that waits", x -> x.release(1, 3));
        undone("finish", x -> x.finish(0));
        undone("abort of one that waits", x -> x.abort(1));
        undone("abort of one that runs", x -> x.abort(0));
        undone("restart", x -> x.restart(3));
        undone("setPolicy", x -> x.setPolicy(1));
        undone("setPolicy to the same", x -> x.setPolicy(0));
        undone("setRule", x -> x.setRule(2));
        undone("setRule to the same", x -> x.setRule(1));
        undone("setBudget", x -> x.setBudget(9));
        undone("setBudget to the same", x -> x.setBudget(5));
        undone("probe", x -> x.probe(6));
        undone("deliver", x -> x.deliver(99));
        undone("deliver one", x -> x.deliver(1));
        undone("run", x -> x.run());
        ProbeLocks x = new ProbeLocks();
        x.deliver(1);
        Check.due("also when there was nothing to deliver", x.undo(), 0);
        Check.noThing("refused", () -> x.request(0, 0));
        Check.badValue("refused", () -> x.setPolicy(3));
        Check.badState("a refused call leaves no record", () -> x.undo());
    }

    private static void restoresEverything() {
        Doc.description("undo() restores the latest one and removes it.");
        ProbeLocks x = Make.of("r-1 r0 t5 t6 t7 q0,0 q1,1 q2,0 P1 R2 B3 p1 p2");
        Check.script(x, "a0;b0;f0;f1;t9;q0,1;d9;t3;");
        Check.due("all of it", x.run(), 8);
        Check.due("undone", x.undo(), 4);
        Check.due("the resources", x.resource(1, 0), 0);
        Check.due("the tasks", x.tasks(), 7);
        Check.task("a task", x, 0, RUNNING, 5, 1, set(0), NONE, 0, NONE);
        Check.task("a task", x, 1, WAITING, 6, 2, 0, 1, set(0), 0);
        Check.task("a task", x, 2, WAITING, 7, 3, 0, 0, set(0), 1);
        Check.order("their order", x, 1, 2);
        Check.due("the messages", x.messages(), 2);
        Check.message("the first", x, 0, 1, 0, 2, 1, set(1));
        Check.message("the second", x, 1, 2, 0, 2, 1, set(2));
        Check.due("the next serial number", x.task(x.create(1), 2), 4);
        Check.due("undone", x.undo(), 4);
        Check.due("one more, the messages", x.undo() + x.messages(), 3 + 1);
        Make.on(x, "u u");
        Check.due("the budget", x.setBudget(1), 4);
        Make.on(x, "u u");
        Check.due("the rule", x.setRule(1), 0);
        Check.due("removed", x.undo(), 0);
        Check.badState("removed", () -> x.undo());
        Check.due("the policy is that of the last record, not of a new object", x.setPolicy(0), 1);
        x.undo();
        Check.due("and is restored", x.setPolicy(0), 1);
        ProbeLocks mail = Make.crowd(10);
        Make.on(mail, "B1 p9 p9 p9 p8 d5 B3 p1 u u u");
        Check.due("all messages", mail.messages(), 36);
        for (int k = 0; k < 36; k++) {
            int initiator = k < 27 ? 9 : 8;
            int target = k == 35 ? 9 : k % 9;
            Check.message("those that were delivered or lost their place", mail, k, initiator, target, 0, 1, set(initiator));
        }
    }

    private static void fiveRecords() {
        Doc.description("At most 5 records are kept; when one more is made, the oldest is dropped.");
        for (int made = 1; made <= 12; made++) {
            ProbeLocks x = new ProbeLocks();
            for (int i = 0; i < made; i++) {
                x.addResource(NONE);
            }
            int kept = Math.min(5, made);
            for (int left = kept - 1; left >= 0; left--) {
                Check.due("of " + made + ", records left", x.undo(), left);
                Check.due("of " + made + ", resources left", x.resources(), made - kept + left);
            }
            Check.badState("of " + made + ", no more", () -> x.undo());
            Check.due("of " + made + ", resources left", x.resources(), made - kept);
        }
    }

    private static void latestRecordFirst() {
        Doc.description("undo() restores the latest one and removes it.");
        ProbeLocks x = Make.of("t1 t2 u t3 t4 u");
        Check.due("what was undone comes not back", x.tasks(), set(0, 1));
        Check.task("the one that stayed", x, 1, RUNNING, 3, 2);
        Check.due("then the one before", x.undo() + 10 * x.tasks(), 1 + 10 * set(0));
        Check.due("then the first", x.undo() + 10 * x.tasks(), 0);
        Make.on(x, "t1 t1 t1 t1 t1 u u u t9 t9 t9 t9");
        for (int left = 4; left >= 0; left--) {
            Check.due("of six the latest five", x.undo(), left);
        }
        Check.due("one is left", x.tasks(), set(0));
    }

    private static void countsStay() {
        Doc.description("(The counts of told() are not restored. wouldHappen() and wouldEnd() count nothing.)");
        String early = "B1 p5 B4 p0";
        String late = " p1 p2 p3 d99 d99";
        ProbeLocks before = Make.crowd(10);
        Make.on(before, early);
        ProbeLocks after = Make.crowd(10);
        Make.on(after, early + late);
        ProbeLocks undone = Make.crowd(10);
        Make.on(undone, early + late + " u u u u u");
        Check.due("all of it is undone", undone.messages(), before.messages());
        for (int what = 0; what <= 7; what++) {
            Check.due("told(" + what + ") was counted", after.told(what) > before.told(what), true);
            Check.due("told(" + what + ") is not restored", undone.told(what), after.told(what));
        }
        ProbeLocks z = Make.of("r-1 r0 r0 t1 t1 t1 t1 q0,1 q2,2 q3,2 P2");
        Check.due("it would abort and wait", z.wouldHappen(1, 0), 4);
        Check.due("it would end all", z.wouldEnd(), 4);
        z.setPolicy(1);
        Check.due("it would be aborted", z.wouldHappen(1, 0), 2);
        Check.told("they count nothing", z, 0, 0, 0, 0, 0, 0, 0, 2);
    }

    // ---- exceptions

    private static void exceptions() {
        Doc.description("A call that throws an exception changes nothing.");
        ProbeLocks x = Make.rich();
        String before = View.of(x);
        Check.noThing("refused", () -> x.request(5, 6));
        Check.badState("refused", () -> x.finish(1));
        Check.badValue("refused", () -> x.setBudget(0));
        Check.badValue("refused", () -> x.run());
        Check.due("nothing is changed", View.of(x), before);
        Doc.description("If several exceptions of a method apply, the one that is listed first is thrown.");
        ProbeLocks full = Make.full();
        Check.noThing("16 resources, no such parent", () -> full.addResource(16));
        Check.noThing("no such resource, no such property", () -> full.resource(16, 5));
        Check.badValue("10 tasks, no such cost", () -> full.create(100));
        Check.noThing("it waits, no such resource", () -> full.request(0, 16));
        Check.noThing("no such resource, so it does not hold it", () -> full.release(0, 16));
        Check.noThing("no such task, so it does not run", () -> full.finish(10));
        Check.noThing("no such task, so it is not aborted", () -> full.restart(10));
        Check.noThing("no such task, no such property", () -> full.task(10, 7));
        Check.noThing("it waits, no such resource", () -> full.wouldHappen(0, 16));
        Check.noThing("no such task, so it does not wait", () -> full.probe(10));
        Check.badValue("120 characters, no such code", () -> full.type(127));
        Doc.description("NONE is returned only if no exception applies.");
        Check.badValue("no such message, no such property", () -> full.message(40, 5));
        Check.badValue("no such message, no such property", () -> full.message(-1, -1));
        Check.badValue("none was found, no such property", () -> full.latest(3));
        Check.noThing("no such task lies on no cycle", () -> full.shortestCycle(10));
        Check.noThing("no such resource has no parent", () -> full.resource(16, 0));
        Check.noThing("nobody holds no such resource", () -> full.resource(-1, 3));
        Check.noThing("no such task waits for nothing", () -> full.task(10, 4));
        Check.noThing("no such task has no position", () -> full.task(-1, 6));
    }

    private static void noneAndTheFace() {
        Doc.description("The constants:", "- `NONE = -1`: Returned where there is no such thing.");
        Check.due("NONE", ProbeLocks.NONE, -1);
        ProbeLocks x = Make.of("r-1 t1");
        Check.due("no parent", x.resource(0, 0), -1);
        Check.due("no holder", x.resource(0, 3), -1);
        Check.due("it waits for no resource", x.task(0, 4), -1);
        Check.due("no position", x.task(0, 6), -1);
        Check.due("nobody waits", x.waiting(0), -1);
        Check.due("no message", x.message(0, 0), -1);
        Check.due("no cycle", x.shortestCycle(0), -1);
        Check.due("no deadlock", x.latest(0), -1);
        Check.due("no fault", x.fault(), -1);
        Doc.description("The constructor and the methods follow, a promise each: the signature, then what it does.");
        long open = java.util.Arrays.stream(ProbeLocks.class.getDeclaredMethods())
                .filter(m -> java.lang.reflect.Modifier.isPublic(m.getModifiers())).count();
        Check.due("promises", open + ProbeLocks.class.getConstructors().length, 36);
    }
}

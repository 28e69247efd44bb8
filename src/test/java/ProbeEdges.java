/** The sentences of the Description on probes, and on cycles and stuck tasks, at their edges. */
final class ProbeEdges {
    private static final int NONE = ProbeLocks.NONE;

    private ProbeEdges() {
    }

    static void all() {
        message();
        inTheOrderSent();
        atMostForty();
        start();
        firstCaseApplies();
        stale();
        found();
        victims();
        ends();
        spent();
        sentOn();
        cycle();
        stuck();
    }

    private static int set(int... members) {
        return DescriptionEdges.set(members);
    }

    private static void message() {
        Doc.description("A message has a path (a sequence of tasks, the first of which is its initiator), a target (a task) "
                + "and a number of hops that are left.");
        ProbeLocks x = Make.ring(1, 1, 1, 1);
        x.probe(2);
        Check.message("at first", x, 0, 2, 3, 3, 1, set(2));
        x.deliver(1);
        Check.message("then", x, 0, 2, 0, 2, 2, set(2, 3));
        x.deliver(1);
        Check.message("then", x, 0, 2, 1, 1, 3, set(0, 2, 3));
        x.deliver(1);
        Check.message("at last", x, 0, 2, 2, 0, 4, set(0, 1, 2, 3));
    }

    private static void inTheOrderSent() {
        Doc.description("Messages are delivered in the order in which they were sent.");
        ProbeLocks x = Make.ring(1, 1, 1);
        Make.on(x, "p2 p0 p1");
        for (int round = 0; round < 2; round++) {
            Check.due("2 is first", x.message(0, 0), 2);
            Check.due("0 is second", x.message(1, 0), 0);
            Check.due("1 is third", x.message(2, 0), 1);
            x.deliver(1);
            Check.due("2 goes to the end", x.message(2, 0), 2);
            Check.due("0 is first", x.message(0, 0), 0);
            x.deliver(2);
        }
        x.deliver(1);
        Check.latest("the one that was sent first finds it", x, set(0, 1, 2), 2, 2);
    }

    private static void atMostForty() {
        Doc.description("There are at most 40 messages that are not delivered yet (one that is being delivered does not count "
                + "any more); one that is sent when there are 40 is lost.");
        ProbeLocks x = Make.crowd(10);
        Check.due("nine each", Make.on(x, "p0 p1 p2 p3"), 36);
        Check.told("none is lost", x, 36, 0);
        Check.due("four more", x.probe(4), 40);
        Check.told("the fortieth is sent, five are lost", x, 40, 5);
        Check.message("the last that was sent", x, 39, 4, 3, 3, 1, set(4));
        Check.due("no forty-first", x.message(40, 1), NONE);
        x.probe(5);
        Check.told("nine are lost", x, 40, 14);
        x.deliver(1);
        Check.told("there is room for one, eight are lost", x, 41, 22);
        Check.message("the first of those sent on", x, 39, 0, 0, 2, 2, set(0, 1));
        Check.message("the others moved up", x, 38, 4, 3, 3, 1, set(4));
        ProbeLocks exact = Make.crowd(9);
        Check.due("eight each", Make.on(exact, "p0 p1 p2 p3 p4"), 40);
        Check.told("forty, none is lost", exact, 40, 0);
        Check.message("the last", exact, 39, 4, 8, 3, 1, set(4));
    }

    private static void start() {
        Doc.description("When a waiting task starts a probe, a message is sent to each task for which it waits, in ascending "
                + "order, with the path that has the initiator alone, and with the budget minus 1 hops left "
                + "(the budget is 1 to 9, at first 4).");
        ProbeLocks x = Make.crowd(5);
        Check.due("four", x.probe(2), 4);
        int[] targets = {0, 1, 3, 4};
        for (int k = 0; k < 4; k++) {
            Check.message("to each", x, k, 2, targets[k], 3, 1, set(2));
        }
        for (int budget = 1; budget <= 9; budget++) {
            ProbeLocks y = Make.ring(1, 1);
            y.setBudget(budget);
            y.probe(1);
            Check.message("budget " + budget, y, 0, 1, 0, budget - 1, 1, set(1));
        }
        Check.due("at first", new ProbeLocks().setBudget(1), 4);
        Check.badValue("budget 0", () -> x.setBudget(0));
        Check.badValue("budget 10", () -> x.setBudget(10));
        ProbeLocks running = Make.of("r-1 t1 t1 q0,0 q1,0 p1");
        Check.message("also to one that runs", running, 0, 1, 0, 3, 1, set(1));
        Make.on(running, "f0");
        Check.due("the message stays", running.messages(), 1);
    }

    private static void firstCaseApplies() {
        Doc.description("When a message is delivered, the first of these cases applies:");
        ProbeLocks staleHome = Make.ring(1, 1);
        Make.on(staleHome, "p0 d1 a1 d1");
        Check.told("stale, though the target is the initiator", staleHome, 2, 0, 1, 0, 0, 0);
        ProbeLocks staleRunning = Make.of("r-1 t1 t1 q0,0 q1,0 p1 l0,0 d1");
        Check.told("stale, though the target does not wait", staleRunning, 1, 0, 1, 0, 0, 0);
        ProbeLocks stalePath = Make.ring(1, 1);
        Make.on(stalePath, "t1 q2,0 p2 d2 a2 d1");
        Check.told("stale, though the target is on the path", stalePath, 3, 0, 1, 0, 0, 0);
        ProbeLocks staleSpent = Make.ring(1, 1, 1);
        Make.on(staleSpent, "B1 p0 a0 d1");
        Check.told("stale, though no hops are left", staleSpent, 1, 0, 1, 0, 0, 0);
        ProbeLocks homeSpent = Make.ring(1, 1, 1, 1);
        Make.on(homeSpent, "p0 d3");
        Check.due("no hops are left", homeSpent.message(0, 2), 0);
        homeSpent.deliver(1);
        Check.told("found, though no hops are left", homeSpent, 4, 0, 0, 0, 1, 0, 1);
        ProbeLocks runningSpent = Make.of("r-1 t1 t1 q0,0 q1,0 B1 p1 d1");
        Check.told("ended, though no hops are left", runningSpent, 1, 0, 0, 0, 0, 0);
        ProbeLocks pathSpent = Make.ring(1, 1);
        Make.on(pathSpent, "t1 q2,0 B3 p2 d2");
        Check.message("no hops are left", pathSpent, 0, 2, 0, 0, 3, set(0, 1, 2));
        pathSpent.deliver(1);
        Check.told("ended on its path, though no hops are left", pathSpent, 3, 0, 0, 0, 0, 0);
        // 0 lies on the ring of 0, 3, 4 and 5, and waits for the ring of 1 and 2 too.
        ProbeLocks both = Make.of("r-1 r0 r0 r-1 r-1 r-1 r-1 r-1 t1 t1 t1 t1 t1 t1 q1,1 q3,2 q0,3 q2,4 q1,5 q4,6 q5,7"
                + " q0,0 q1,4 q2,5 q3,6 q4,7 q5,3 B3 p0 d99");
        Check.due("all lie on cycles", both.onCycles(), 63);
        Check.told("one ended on its path, the other one is spent, both without hops", both, 6, 0, 0, 1, 0, 1);
    }

    /** 0 waits for 1 and 2; 1 waits for 3 and 4; under way are 0 to 2, and 0 over 1 to 3 and to 4. */
    private static ProbeLocks underWay() {
        return Make.of("r-1 r0 r0 r-1 r3 r3 t1 t1 t1 t1 t1 q1,1 q2,2 q3,4 q4,5 q0,0 q1,3 p0 d1");
    }

    private static void staleOnes(String calls, int due) {
        ProbeLocks x = underWay();
        if (!calls.isEmpty()) {
            Make.on(x, calls);
        }
        Check.due("after '" + calls + "', delivered", x.deliver(99), 3);
        Check.told("after '" + calls + "'", x, 4, 0, due, 0, 0, 0);
    }

    private static void stale() {
        Doc.description("1. A task of the path (by its number alone) does not exist or is not waiting, or does not wait for "
                + "the next one in the path, or the last one does not wait for the target: the message is stale.");
        ProbeLocks x = underWay();
        Check.message("the first", x, 0, 0, 2, 3, 1, set(0));
        Check.message("the second", x, 1, 0, 3, 2, 2, set(0, 1));
        Check.message("the third", x, 2, 0, 4, 2, 2, set(0, 1));
        staleOnes("", 0);
        staleOnes("a0", 3);
        staleOnes("a0 b0", 3);
        staleOnes("a0 b0 f0", 3);
        staleOnes("a1", 2);
        staleOnes("a1 b1", 2);
        staleOnes("a1 b1 f1", 2);
        staleOnes("a1 b1 f1 t1", 2);
        staleOnes("a1 b1 f1 t1 q1,3", 2);
        staleOnes("a1 b1 f1 t1 q1,1", 2);
        staleOnes("a1 b1 f1 t1 q1,1 q1,3", 0);
        staleOnes("a1 b1 q1,1 q1,3", 0);
        staleOnes("a0 b0 f0 t1 q0,0", 0);
        staleOnes("l1,1", 2);
        staleOnes("l3,4", 1);
        staleOnes("l4,5", 1);
        staleOnes("l2,2", 1);
        staleOnes("l3,4 l4,5", 2);
        staleOnes("f2", 1);
        staleOnes("f3 t1 q3,4", 0);
        staleOnes("f3", 1);
        staleOnes("a2 a3", 2);
        staleOnes("a3 a4", 2);
        longPath();
    }

    /**
     * Each of 0 to 3 waits for the next one and for 5, by a root of its own with a child for each of
     * the two; under way are messages over 0, 1, 2 and 3 to 4 and to 5. One link is broken at a time.
     */
    private static void longPath() {
        String setup = "t1 t1 t1 t1 t1 t1";
        for (int t = 0; t < 4; t++) {
            int root = 3 * t;
            setup += " r-1 r" + root + " r" + root + " q" + (t + 1) + "," + (root + 1) + " q5," + (root + 2);
        }
        setup += " q0,0 q1,3 q2,6 q3,9 B9 p0 d6";
        for (int link = -1; link < 4; link++) {
            ProbeLocks x = Make.of(setup);
            Check.message("to 4", x, 0, 0, 4, 5, 4, set(0, 1, 2, 3));
            Check.message("to 5", x, 1, 0, 5, 5, 4, set(0, 1, 2, 3));
            if (link >= 0) {
                x.release(link + 1, 3 * link + 1);
            }
            Check.due("they wait still", x.task(0, 0) + x.task(1, 0) + x.task(2, 0) + x.task(3, 0), 4);
            Check.due("two", x.deliver(99), 2);
            Check.due("stale by link " + link, x.told(2), link < 0 ? 0 : link < 3 ? 2 : 1);
        }
    }

    private static void found() {
        Doc.description("2. The target is the initiator: a deadlock is found.", "Its cycle consists of the tasks of the path.",
                "It is aborted, and it is settled.");
        ProbeLocks three = Make.ring(3, 2, 4);
        Make.on(three, "p2 d3");
        Check.latest("found", three, set(0, 1, 2), 1, 2);
        Check.told("found", three, 3, 0, 0, 0, 1, 0, 1, 4);
        Check.task("the victim is aborted", three, 1, 2, 2, 2, 0, NONE, 0, NONE);
        Check.task("and it is settled", three, 0, 0, 3, 1, set(0, 1), NONE, 0, NONE);
        Check.task("the third waits still", three, 2, 1, 4, 3, set(2), 0, set(0), 0);
        ProbeLocks crowd = Make.crowd(4);
        Make.on(crowd, "p1 d4");
        Check.latest("only those of the path, not all that lie on cycles", crowd, set(0, 1), 1, 1);
        Check.due("the others are in a ring still", crowd.onCycles(), set(0, 2, 3));
        ProbeLocks longest = Make.ring(9, 9, 9, 9, 9, 9, 9, 9, 9);
        Make.on(longest, "B9 p4 d9");
        Check.latest("the longest", longest, 511, 8, 4);
        ProbeLocks two = Make.ring(1, 1);
        Make.on(two, "p1 p0 d99");
        Check.told("the second one is stale then", two, 4, 0, 1, 0, 1, 0, 1, 3);
        Check.latest("the first one has found it", two, set(0, 1), 1, 1);
    }

    private static ProbeLocks broken(String setup, int rule, String probe) {
        ProbeLocks x = Make.of(setup);
        Make.on(x, "R" + rule + " " + probe + " d99");
        return x;
    }

    private static void victims() {
        Doc.description("The victim is chosen from it by the rule: 0 the one with the least cost, 1 the youngest one, 2 the one "
                + "that holds the fewest resources; with 0 and 2, of several the youngest one.");
        String eight = "r-1 r-1 r-1 r-1 r-1 r-1 r-1 r-1 ";
        String close = " q0,1 q1,2 q2,3 q3,0";
        // Task 0 costs least, 1 holds the fewest, 3 is the youngest.
        String apart = eight + "t1 t5 t5 t5 q0,0 q1,1 q2,2 q3,3 q0,4 q2,5 q3,6 q3,7" + close;
        Check.latest("the least cost", broken(apart, 0, "p1"), 15, 0, 1);
        Check.latest("the youngest", broken(apart, 1, "p1"), 15, 3, 1);
        Check.latest("the fewest", broken(apart, 2, "p1"), 15, 1, 1);
        // 0, 1 and 2 cost the same, and 0, 1 and 2 hold as many.
        String equal = eight + "t4 t4 t4 t5 q0,0 q1,1 q2,2 q3,3 q3,4" + close;
        Check.latest("of three the youngest", broken(equal, 0, "p0"), 15, 2, 0);
        Check.latest("of three the youngest", broken(equal, 2, "p0"), 15, 2, 0);
        // As before, but 1 was made anew and is the youngest of them all.
        String anew = eight + "t4 t9 t4 t5 f1 t4 q0,0 q1,1 q2,2 q3,3 q3,4" + close;
        Check.latest("the youngest is not the highest", broken(anew, 0, "p0"), 15, 1, 0);
        Check.latest("the youngest is not the highest", broken(anew, 1, "p0"), 15, 1, 0);
        Check.latest("the youngest is not the highest", broken(anew, 2, "p0"), 15, 1, 0);
        // Task 4 costs least, holds nothing and is the youngest, but waits behind the ring.
        String outside = eight + "t4 t4 t4 t5 t1 q0,0 q1,1 q2,2 q3,3 q3,4" + close + " q4,0";
        for (int rule = 0; rule <= 2; rule++) {
            ProbeLocks x = broken(outside, rule, "p0");
            Check.latest("from the cycle alone", x, 15, rule == 1 ? 3 : 2, 0);
            Check.due("it waits still", x.task(4, 0), 1);
        }
    }

    private static void ends() {
        Doc.description("3. The target is not waiting, or is a task of the path: the message ends.");
        ProbeLocks running = Make.of("r-1 r-1 t1 t1 t1 q0,0 q1,1 q1,0 q2,1 p2 d99");
        Check.told("it came to one that runs", running, 2, 0, 0, 0, 0, 0, 0, 2);
        Check.due("nothing is left", running.messages(), 0);
        ProbeLocks path = Make.ring(1, 1);
        Make.on(path, "t1 q2,0 B9 p2");
        Check.due("three", path.deliver(99), 3);
        Check.told("it came to its path", path, 3, 0, 0, 0, 0, 0, 0, 2);
        Check.latest("nothing is found", path, NONE, NONE, NONE);
        ProbeLocks last = Make.ring(1, 1, 1);
        Make.on(last, "t1 q3,0 B9 p3 d2");
        Check.message("on the way", last, 0, 3, 2, 6, 3, set(0, 1, 3));
        Make.on(last, "d2");
        Check.told("it came to the second of its path", last, 4, 0, 0, 0, 0, 0, 0, 3);
    }

    private static void spent() {
        Doc.description("4. No hops are left: the message is spent.", "If the initiator lies on a cycle, a deadlock is missed.");
        for (int length = 2; length <= 10; length++) {
            int[] costs = new int[length];
            java.util.Arrays.fill(costs, 1);
            for (int budget = 1; budget <= 9; budget++) {
                ProbeLocks x = Make.ring(costs);
                Make.on(x, "B" + budget + " p0");
                int missed = budget < length ? 1 : 0;
                int sent = Math.min(budget, length);
                Check.due("ring of " + length + ", budget " + budget, x.deliver(99), sent);
                Check.told("ring of " + length + ", budget " + budget, x, sent, 0, 0, missed, 1 - missed, missed);
            }
        }
        ProbeLocks chain = Make.of("r-1 r-1 r-1 r-1 t1 t1 t1 t1 q0,0 q1,1 q2,2 q3,3 q1,0 q2,1 q3,2 B2 p3 d99");
        Check.told("spent, but there is no cycle", chain, 2, 0, 0, 1, 0, 0);
        Make.on(chain, "q0,1 p3 d99");
        Check.due("3 waits behind a cycle", chain.stuck(), 15);
        Check.told("spent, but it does not lie on the cycle", chain, 4, 0, 0, 2, 0, 0);
        // 0 waits for 1 and 2; 2 waits for 0; 1 waits for 3, which waits for 4, which runs.
        ProbeLocks side = Make.of("r-1 r0 r0 r-1 r-1 r-1 t1 t1 t1 t1 t1 q1,1 q2,2 q0,3 q3,4 q4,5 q0,0 q2,3 q1,4 q3,5 B2 p0 d3");
        Check.told("missed, though this path leads to no cycle", side, 4, 0, 0, 1, 0, 1);
        ProbeLocks one = Make.of("r-1 r0 r0 r-1 r-1 r-1 t1 t1 t1 t1 t1 q1,1 q2,2 q0,3 q3,4 q4,5 q0,0 q2,3 q1,4 q3,5 B1 p0 d9");
        Check.told("each one is counted", one, 2, 0, 0, 2, 0, 2);
    }

    private static void sentOn() {
        Doc.description("5. Otherwise a message is sent to each task for which the target waits, in ascending order, with the "
                + "target added to the path, and one hop less left.");
        ProbeLocks x = Make.crowd(4);
        Make.on(x, "B6 p2 d1");
        int[] targets = {1, 2, 3};
        for (int k = 0; k < 3; k++) {
            Check.message("to each", x, 2 + k, 2, targets[k], 4, 2, set(0, 2));
        }
        Check.due("with those that were there", x.messages(), 5);
        Check.told("sent", x, 6, 0, 0, 0);
        ProbeLocks last = Make.crowd(4);
        Make.on(last, "B2 p2 d1");
        Check.message("the last hop", last, 2, 2, 1, 0, 2, set(0, 2));
        ProbeLocks kept = Make.ring(1, 1, 1);
        Make.on(kept, "B9 p0 B1 d1");
        Check.message("by its own hops, not by the budget", kept, 0, 0, 2, 7, 2, set(0, 1));
    }

    private static void cycle() {
        Doc.description("A task lies on a cycle if one can come from it to itself by going, one or more times, from a task to "
                + "one for which it waits.");
        for (int length = 2; length <= 10; length++) {
            int[] costs = new int[length];
            java.util.Arrays.fill(costs, 1);
            ProbeLocks x = Make.holders(costs);
            for (int t = 0; t + 1 < length; t++) {
                x.request(t, t + 1);
            }
            Check.due("a chain of " + length, x.onCycles(), 0);
            x.request(length - 1, 0);
            Check.due("a ring of " + length, x.onCycles(), (1 << length) - 1);
        }
        ProbeLocks behind = Make.ring(1, 1);
        Make.on(behind, "t1 r-1 q2,2 q2,0 t1 q3,2 t1");
        Check.due("not those behind it, nor one that runs", behind.onCycles(), set(0, 1));
        ProbeLocks own = Make.of("r-1 r0 r0 t1 t1 q0,1 q1,2 q0,0");
        Check.due("nobody waits for itself", own.onCycles(), 0);
        // 0 and 1 in a ring, 2 and 3 in another one, and 1 waits for 2 too.
        ProbeLocks linked = Make.of("r-1 r0 r0 r-1 r-1 r-1 t1 t1 t1 t1 q0,1 q2,2 q1,3 q3,4 q2,5 q1,0 q0,3 q2,4 q3,5");
        Check.due("both rings", linked.onCycles(), 15);
        linked.abort(0);
        Check.due("1 waits for the other ring alone", linked.onCycles(), set(2, 3));
    }

    private static void stuck() {
        Doc.description("A task is stuck if one can come from it, by going like this any number of times, to a task that lies "
                + "on a cycle.");
        ProbeLocks ring = Make.ring(1, 1);
        Check.due("those on a cycle are, without going", ring.stuck(), set(0, 1));
        Make.on(ring, "t1 r-1 q2,2 q2,0");
        Check.due("by going once", ring.stuck(), set(0, 1, 2));
        Make.on(ring, "t1 r-1 q3,3 q3,2 t1 r-1 q4,4 q4,3 t1 r-1 q5,5 q5,4");
        Check.due("by going four times", ring.stuck(), set(0, 1, 2, 3, 4, 5));
        Make.on(ring, "t1 r-1 q6,6 t1 q7,6");
        Check.due("not one that runs, nor one that waits for it", ring.stuck(), set(0, 1, 2, 3, 4, 5));
        ring.abort(2);
        Check.due("those behind one that is gone are not", ring.stuck(), set(0, 1));
        ProbeLocks far = Make.ring(1, 1);
        for (int t = 2; t < 10; t++) {
            Make.on(far, "t1 r-1 q" + t + "," + t + " q" + t + "," + (t - 1));
        }
        Check.due("by going eight times", far.stuck(), 1023);
        Check.due("the cycle has two", far.onCycles(), set(0, 1));
    }
}

import java.util.Random;

/** Random runs of calls on ProbeLocks and NaiveLocks at once: every answer and exception is the same. */
public final class AgainstNaiveTest {
    private static final int CALLS = 512;
    private static final int LEFT_FOR_THE_END = 60;
    private static final int[] EDGES = {
        -2, -1, 0, 1, 2, 9, 10, 15, 16, 31, 32, 99, 100, 126, 127, Integer.MIN_VALUE, Integer.MAX_VALUE
    };

    private final Random random;
    private ProbeLocks x = new ProbeLocks();
    private NaiveLocks y = new NaiveLocks();
    private String called;
    private int calls;
    private int deliverOneIn;
    private boolean keepsPolicy;

    private AgainstNaiveTest(long seed) {
        random = new Random(seed);
    }

    public static void main(String[] args) {
        int runs = args.length > 0 ? Integer.parseInt(args[0]) : 600;
        long found = 0;
        long missed = 0;
        long lost = 0;
        for (int seed = 0; seed < runs; seed++) {
            AgainstNaiveTest test = new AgainstNaiveTest(seed);
            test.start(seed);
            while (test.calls < CALLS - LEFT_FOR_THE_END) {
                test.step(seed);
            }
            test.lookAround(seed);
            found += test.x.told(4);
            missed += test.x.told(5);
            lost += test.x.told(1);
        }
        // Otherwise the mix of calls has gone so wrong that the comparison says little.
        Check.due("enough found, missed and lost", 2 * found > runs && 2 * missed > runs && 2 * lost > runs, true);
        Check.done("AgainstNaiveTest (" + found + " found, " + missed + " missed, " + lost + " lost)");
    }

    private int below(int n) {
        return random.nextInt(n);
    }

    /** Mostly a number that means something, now and then an edge or nonsense. */
    private int near(int n) {
        return below(40) == 0 ? EDGES[below(EDGES.length)] : below(n);
    }

    private void same(String run, Check.Call mine, Check.Call naive) {
        calls++;
        Check.due(run + " " + called, Check.outcome(mine), Check.outcome(naive));
    }

    /** Three kinds of beginnings: nothing, a broad tree with a task on each leaf, a chain of trees. */
    private void start(int seed) {
        int kind = seed % 3;
        deliverOneIn = 2 << below(4);
        keepsPolicy = below(3) > 0;
        if (kind == 0) {
            return;
        }
        int leaves = 2 + below(9);
        for (int i = 0; i <= leaves && calls < CALLS; i++) {
            int parent = i == 0 ? -1 : kind == 1 ? 0 : below(i + 1) - 1;
            called = "addResource(" + parent + ")";
            same("start " + seed, () -> x.addResource(parent), () -> y.addResource(parent));
        }
        for (int i = 0; i < leaves; i++) {
            int t = i;
            int cost = 1 + below(5);
            called = "create and request " + t;
            same("start " + seed, () -> x.create(cost), () -> y.create(cost));
            same("start " + seed, () -> x.request(t, t + 1), () -> y.request(t, t + 1));
        }
    }

    private void step(int seed) {
        String run = "seed " + seed + " call " + calls;
        int kind = below(100);
        if (kind < 34) {
            act(run);
        } else if (kind < 56) {
            probing(run);
        } else if (kind < 62) {
            setting(run);
        } else if (kind < 64) {
            scripting(run);
        } else if (kind < 67) {
            called = "undo()";
            same(run, () -> x.undo(), () -> y.undo());
        } else if (kind < 85) {
            ask(run);
        } else {
            called = "checksum()";
            same(run, () -> x.checksum(), () -> y.checksum());
        }
    }

    /** Mostly a task in that state, if there is one: other calls are only refused. */
    private int taskIn(int state) {
        int t = near(10);
        for (int tries = 0; tries < 10 && t >= 0 && t < 10; tries++) {
            if ((y.tasks() >> t & 1) != 0 && y.task(t, 0) == state) {
                return t;
            }
            t = near(10);
        }
        return t;
    }

    private void act(String run) {
        int t = taskIn(below(3) / 2 * 2);
        int r = near(Math.max(1, y.resources()));
        int kind = below(60);
        called = "act " + kind + " with " + t + ", " + r;
        switch (kind) {
            case 0, 1 -> same(run, () -> x.addResource(r - 1), () -> y.addResource(r - 1));
            case 2, 3, 4, 5, 6 -> {
                int cost = below(20) == 0 ? near(120) : 1 + below(6);
                same(run, () -> x.create(cost), () -> y.create(cost));
            }
            case 7, 8, 9 -> same(run, () -> x.release(t, r), () -> y.release(t, r));
            case 10 -> same(run, () -> x.finish(t), () -> y.finish(t));
            case 11 -> same(run, () -> x.abort(t), () -> y.abort(t));
            case 12, 13, 14, 15, 16, 17, 18, 19, 20 -> same(run, () -> x.restart(t), () -> y.restart(t));
            default -> same(run, () -> x.request(t, r), () -> y.request(t, r));
        }
    }

    private void probing(String run) {
        int t = taskIn(1);
        int n = below(3) == 0 ? near(100) : 1 + below(4);
        called = "probe or deliver " + t + ", " + n;
        if (below(deliverOneIn) == 0) {
            same(run, () -> x.deliver(n), () -> y.deliver(n));
        } else {
            same(run, () -> x.probe(t), () -> y.probe(t));
        }
    }

    private void setting(String run) {
        int v = below(10) == 0 ? near(10) : below(3);
        int hops = below(10) == 0 ? near(10) : 1 + below(9);
        called = "set " + v + ", " + hops;
        switch (below(4)) {
            case 0 -> {
                // The policies 1 and 2 leave few deadlocks, so that many runs keep to 0.
                int policy = keepsPolicy && v < 3 ? 0 : v;
                same(run, () -> x.setPolicy(policy), () -> y.setPolicy(policy));
            }
            case 1 -> same(run, () -> x.setPolicy(0), () -> y.setPolicy(0));
            case 2 -> same(run, () -> x.setRule(v), () -> y.setRule(v));
            default -> same(run, () -> x.setBudget(hops), () -> y.setBudget(hops));
        }
    }

    private void scripting(String run) {
        String letters = "tqqqqqlfabppddz";
        StringBuilder script = new StringBuilder();
        for (int n = below(4); n >= 0; n--) {
            char letter = letters.charAt(below(letters.length()));
            script.append(letter).append(below(letter == 'd' ? 100 : 12));
            if (letter == 'q' || letter == 'l') {
                script.append(',').append(below(12));
            }
            script.append(';');
        }
        if (below(6) == 0) {
            script.setCharAt(below(script.length()), (char) (32 + below(95)));
        }
        for (int i = 0; i < script.length() && below(100) > 0; i++) {
            called = "type " + script;
            int c = below(200) == 0 ? near(200) : script.charAt(i);
            same(run, () -> x.type(c), () -> y.type(c));
        }
        called = "fault, run, fault of " + script;
        same(run, () -> x.fault(), () -> y.fault());
        same(run, () -> x.run(), () -> y.run());
        if (below(3) > 0) {
            same(run, () -> x.clearText(), () -> y.clearText());
        }
    }

    private void ask(String run) {
        int t = near(10);
        int r = near(Math.max(1, y.resources()));
        int what = near(9);
        int kind = below(17);
        called = "ask " + kind + " with " + t + ", " + r + ", " + what;
        switch (kind) {
            case 0 -> same(run, () -> x.resources(), () -> y.resources());
            case 1 -> same(run, () -> x.resource(r, what), () -> y.resource(r, what));
            case 2 -> same(run, () -> x.overlap(r, t) ? 1 : 0, () -> y.overlap(r, t));
            case 3 -> same(run, () -> x.tasks(), () -> y.tasks());
            case 4 -> same(run, () -> x.task(t, what), () -> y.task(t, what));
            case 5 -> same(run, () -> x.waiting(t), () -> y.waiting(t));
            case 6 -> same(run, () -> x.wouldHappen(t, r), () -> y.wouldHappen(t, r));
            case 7 -> same(run, () -> x.messages(), () -> y.messages());
            case 8 -> same(run, () -> x.message(t * 4, what), () -> y.message(t * 4, what));
            case 9 -> same(run, () -> x.told(what), () -> y.told(what));
            case 10 -> same(run, () -> x.onCycles(), () -> y.onCycles());
            case 11 -> same(run, () -> x.stuck(), () -> y.stuck());
            case 12 -> same(run, () -> x.shortestCycle(t), () -> y.shortestCycle(t));
            case 13 -> same(run, () -> x.cycles(), () -> y.cycles());
            case 14 -> same(run, () -> x.latest(what), () -> y.latest(what));
            case 15 -> same(run, () -> x.bestVictims(), () -> y.bestVictims());
            default -> same(run, () -> x.wouldEnd(), () -> y.wouldEnd());
        }
    }

    private void lookAround(int seed) {
        String run = "end of seed " + seed;
        for (int what = 0; what < 8; what++) {
            int w = what;
            called = "told(" + w + ")";
            same(run, () -> x.told(w), () -> y.told(w));
        }
        for (int what = 0; what < 3; what++) {
            int w = what;
            called = "latest(" + w + ")";
            same(run, () -> x.latest(w), () -> y.latest(w));
        }
        called = "checksum()";
        same(run, () -> x.checksum(), () -> y.checksum());
        called = "undo()";
        same(run, () -> x.undo(), () -> y.undo());
        called = "checksum() after undo()";
        same(run, () -> x.checksum(), () -> y.checksum());
    }
}

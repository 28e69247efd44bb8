/**
 * Short lines of calls, for setting a manager up: "r-1 r0 t5 q0,1" adds a resource and one below
 * it, creates a task of cost 5, and lets task 0 request resource 1. None of them may be refused.
 */
final class Make {
    private Make() {
    }

    static ProbeLocks of(String calls) {
        ProbeLocks x = new ProbeLocks();
        on(x, calls);
        return x;
    }

    /** Answers what the last of the calls answers. */
    static int on(ProbeLocks x, String calls) {
        int answer = 0;
        for (String call : calls.strip().split("\\s+")) {
            answer = one(x, call);
        }
        return answer;
    }

    private static int one(ProbeLocks x, String call) {
        String[] numbers = call.substring(1).split(",");
        int first = numbers[0].isEmpty() ? 0 : Integer.parseInt(numbers[0]);
        int second = numbers.length > 1 ? Integer.parseInt(numbers[1]) : 0;
        return switch (call.charAt(0)) {
            case 'r' -> x.addResource(first);
            case 't' -> x.create(first);
            case 'q' -> x.request(first, second);
            case 'l' -> x.release(first, second);
            case 'f' -> x.finish(first);
            case 'a' -> x.abort(first);
            case 'b' -> x.restart(first);
            case 'p' -> x.probe(first);
            case 'd' -> x.deliver(first);
            case 'P' -> x.setPolicy(first);
            case 'R' -> x.setRule(first);
            case 'B' -> x.setBudget(first);
            case 'u' -> x.undo();
            default -> throw new IllegalArgumentException(call);
        };
    }

    /** A resource without a parent for each task, which holds it; each task costs as much as is told. */
    static ProbeLocks holders(int... costs) {
        ProbeLocks x = new ProbeLocks();
        for (int t = 0; t < costs.length; t++) {
            on(x, "r-1 t" + costs[t] + " q" + t + "," + t);
        }
        return x;
    }

    /** Task t holds resource t and waits for the next one, the last for resource 0. */
    static ProbeLocks ring(int... costs) {
        ProbeLocks x = holders(costs);
        for (int t = 0; t < costs.length; t++) {
            x.request(t, (t + 1) % costs.length);
        }
        return x;
    }

    /** So many tasks of cost 1, each holding a leaf and waiting for the root, so that each waits for all others. */
    static ProbeLocks crowd(int size) {
        ProbeLocks x = of("r-1");
        for (int t = 0; t < size; t++) {
            on(x, "r0 t1 q" + t + "," + (t + 1));
        }
        for (int t = 0; t < size; t++) {
            x.request(t, 0);
        }
        return x;
    }

    /**
     * Something of everything: six resources, four of them in a tree; 0 runs with a resource,
     * 1 and 2 wait for each other, 3 is aborted, 4 does not exist, 5 runs with nothing, 6 waits for
     * 1; three messages, one of them on its way home; a deadlock that was found, one that was
     * missed, five records, no setting as at first, and a text that only lacks its last ";".
     */
    static ProbeLocks rich() {
        ProbeLocks x = of("r-1 r0 r0 r1 r-1 r-1 t9 t8 t7 t3 t2 t5 t6 f4 q3,5 a3 q0,4 q1,3 q2,2 q1,2 q2,1"
                + " B1 p1 d1 B5 R1 p1 p2 d1 d9 b2 l1,2 q2,2 q1,2 q2,1 q6,3 p1 p6 p2 d1 P2");
        Check.type(x, "t5;q0,1;d9");
        return x;
    }

    /** Everything full: 16 resources, 10 tasks, 40 messages and 120 characters. */
    static ProbeLocks full() {
        ProbeLocks x = crowd(10);
        on(x, "r-1 r11 r12 r-1 r14 p0 p1 p2 p3 p4");
        for (int i = 0; i < 40; i++) {
            Check.type(x, "d1;");
        }
        return x;
    }
}

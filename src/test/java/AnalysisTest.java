/** Promises 24 to 27, 29 and 30: cycles, stuck tasks, least sets of victims, what would end. */
public final class AnalysisTest {
    public static void main(String[] args) {
        nothing();
        twoRings();
        crowds();
        ringsOfDifferentLength();
        victimsByCost();
        victimsByNumber();
        victimsByMask();
        wouldEnd();
        nothingChanges();
        Check.done("AnalysisTest");
    }

    /** Task t holds resource t, for as many tasks as there are costs; there are 16 single resources. */
    private static ProbeLocks holders(int... costs) {
        ProbeLocks x = new ProbeLocks();
        for (int r = 0; r < 16; r++) {
            x.addResource(ProbeLocks.NONE);
        }
        for (int t = 0; t < costs.length; t++) {
            x.create(costs[t]);
            x.request(t, t);
        }
        return x;
    }

    private static void nothing() {
        ProbeLocks x = holders(1, 1);
        x.request(1, 0);
        Check.due("24: a wait is no cycle", x.onCycles(), 0);
        Check.due("25: it is not stuck", x.stuck(), 0);
        Check.due("26: no cycle", x.shortestCycle(1), -1);
        Check.due("27: no cycle", x.cycles(), 0);
        Check.due("29: no cycle", x.bestVictims(), 0);
        Check.due("24: nobody", new ProbeLocks().onCycles(), 0);
        Check.due("25: nobody", new ProbeLocks().stuck(), 0);
        Check.due("27: nobody", new ProbeLocks().cycles(), 0);
        Check.due("29: nobody", new ProbeLocks().bestVictims(), 0);
        Check.due("30: nobody", new ProbeLocks().wouldEnd(), 0);
        int[] none = {-1, 2, 10, 32, Integer.MIN_VALUE, Integer.MAX_VALUE};
        for (int t : none) {
            Check.noThing("26: task", () -> x.shortestCycle(t));
        }
    }

    /** 0 and 1 in a ring, 2, 3 and 4 in another one, 5 behind 4, 6 behind 5, 7 behind 8, which runs. */
    private static void twoRings() {
        ProbeLocks x = holders(1, 2, 3, 4, 5, 6, 7, 8, 9);
        x.request(0, 1);
        x.request(1, 0);
        x.request(2, 3);
        x.request(3, 4);
        x.request(4, 2);
        x.request(5, 4);
        x.request(6, 5);
        x.request(7, 8);
        Check.due("24: both rings", x.onCycles(), 31);
        Check.due("25: and those behind", x.stuck(), 127);
        int[] shortest = {2, 2, 3, 3, 3, -1, -1, -1, -1};
        for (int t = 0; t < 9; t++) {
            Check.due("26: shortest of " + t, x.shortestCycle(t), shortest[t]);
        }
        Check.due("27: two", x.cycles(), 2);
        Check.due("29: the cheapest of each", x.bestVictims(), 5);
        Check.due("30: only those that are not stuck", x.wouldEnd(), 2);
        x.abort(3);
        Check.due("24: one ring is left", x.onCycles(), 3);
        Check.due("25: one ring is left", x.stuck(), 3);
        x.undo();
        Check.due("24: undone", x.onCycles(), 31);
    }

    private static void crowds() {
        int[] rings = {0, 0, 1, 5, 20, 84, 409, 2365, 16064, 125664, 1112073};
        for (int size = 1; size <= 10; size++) {
            ProbeLocks x = ProbesTest.crowd(size);
            Check.due("27: rings of " + size + " that all wait for one another", x.cycles(), rings[size]);
            Check.due("27: again", x.cycles(), rings[size]);
            Check.due("24: all", x.onCycles(), size == 1 ? 0 : (1 << size) - 1);
            Check.due("26: two are enough", x.shortestCycle(0), size == 1 ? -1 : 2);
            Check.due("29: all but the dearest", x.bestVictims(), (1 << size - 1) - 1);
        }
        ProbeLocks x = ProbesTest.crowd(4);
        x.abort(0);
        Check.due("27: fewer than before", x.cycles(), 5);
        x.abort(3);
        Check.due("27: fewer still", x.cycles(), 1);
        x.abort(2);
        Check.due("27: none", x.cycles(), 0);
    }

    /** 0 waits for 1 and 2 (through a tree), 1 for 0, 2 for 3, 3 for 0. */
    private static ProbeLocks shortAndLong(int... costs) {
        ProbeLocks x = new ProbeLocks();
        for (int t = 0; t < 4; t++) {
            x.create(costs[t]);
        }
        x.addResource(ProbeLocks.NONE);
        x.addResource(0);
        x.addResource(0);
        x.addResource(ProbeLocks.NONE);
        x.addResource(ProbeLocks.NONE);
        x.request(1, 1);
        x.request(2, 2);
        x.request(3, 3);
        x.request(0, 4);
        x.request(0, 0);
        x.request(1, 4);
        x.request(2, 3);
        x.request(3, 4);
        return x;
    }

    private static void ringsOfDifferentLength() {
        ProbeLocks x = shortAndLong(9, 2, 3, 4);
        int[] shortest = {2, 2, 3, 3};
        for (int t = 0; t < 4; t++) {
            Check.due("26: shortest of " + t, x.shortestCycle(t), shortest[t]);
        }
        Check.due("27: two rings share a task", x.cycles(), 2);
        Check.due("24: all", x.onCycles(), 15);
        ProbeLocks longest = holders(1, 1, 1, 1, 1, 1, 1, 1, 1, 1);
        for (int t = 0; t < 10; t++) {
            longest.request(t, (t + 3) % 10);
        }
        Check.due("26: the longest", longest.shortestCycle(4), 10);
        Check.due("27: the longest", longest.cycles(), 1);
        Check.due("24: asked first of all", shortAndLong(9, 2, 3, 4).onCycles(), 15);
        Check.due("25: asked first of all", shortAndLong(9, 2, 3, 4).stuck(), 15);
        Check.due("26: asked first of all", shortAndLong(9, 2, 3, 4).shortestCycle(3), 3);
        Check.due("27: asked first of all", shortAndLong(9, 2, 3, 4).cycles(), 2);
        longest.abort(4);
        Check.due("26: broken", longest.shortestCycle(5), -1);
    }

    private static void victimsByCost() {
        Check.due("29: two cheap ones", shortAndLong(9, 2, 3, 4).bestVictims(), 6);
        Check.due("29: one dear one", shortAndLong(4, 2, 3, 4).bestVictims(), 1);
        Check.due("29: the other branch", shortAndLong(99, 98, 99, 1).bestVictims(), 1);
        Check.due("29: the other branch", shortAndLong(99, 9, 8, 7).bestVictims(), 10);
    }

    private static void victimsByNumber() {
        Check.due("29: of the same cost the fewest", shortAndLong(5, 2, 3, 4).bestVictims(), 1);
        Check.due("29: one cheaper by 1 in all", shortAndLong(6, 2, 3, 4).bestVictims(), 6);
        Check.due("29: the fewest has the greatest mask", hubLast(5, 2, 3).bestVictims(), 4);
        Check.due("29: fewer, but dearer", hubLast(6, 2, 3).bestVictims(), 3);
    }

    /** 2 waits for 0 and 1, which both wait for 2. */
    private static ProbeLocks hubLast(int hubCost, int... costs) {
        ProbeLocks x = new ProbeLocks();
        x.addResource(ProbeLocks.NONE);
        x.addResource(0);
        x.addResource(0);
        x.addResource(ProbeLocks.NONE);
        x.create(costs[0]);
        x.create(costs[1]);
        x.create(hubCost);
        x.request(0, 1);
        x.request(1, 2);
        x.request(2, 3);
        x.request(0, 3);
        x.request(1, 3);
        x.request(2, 0);
        return x;
    }

    private static void victimsByMask() {
        Check.due("29: of as many the smallest mask", shortAndLong(99, 2, 3, 3).bestVictims(), 6);
        ProbeLocks x = holders(7, 7, 7);
        x.request(0, 1);
        x.request(1, 2);
        x.request(2, 0);
        Check.due("29: the smallest mask", x.bestVictims(), 1);
    }

    private static void wouldEnd() {
        ProbeLocks x = holders(1, 1, 1, 1);
        x.request(0, 3);
        x.request(1, 0);
        x.abort(2);
        Check.due("30: one frees the next; an aborted one does not end", x.wouldEnd(), 3);
        // Which one is finished first matters: the lowest is what runs, then what is settled.
        ProbeLocks y = new ProbeLocks();
        y.addResource(ProbeLocks.NONE);
        y.addResource(ProbeLocks.NONE);
        y.addResource(ProbeLocks.NONE);
        for (int t = 0; t < 4; t++) {
            y.create(1);
        }
        y.request(0, 0);
        y.request(1, 1);
        y.request(3, 2);
        y.request(0, 1);
        y.request(1, 0);
        y.request(2, 2);
        Check.due("30: the ring stays", y.wouldEnd(), 2);
        ProbeLocks all = holders(1, 1, 1, 1, 1, 1, 1, 1, 1, 1);
        Check.due("30: all", all.wouldEnd(), 10);
    }

    private static void nothingChanges() {
        ProbeLocks x = shortAndLong(9, 2, 3, 4);
        x.create(3);
        x.create(3);
        x.request(4, 0);
        long before = x.checksum();
        int granted = x.told(7);
        int aborted = x.told(6);
        x.onCycles();
        x.stuck();
        x.shortestCycle(0);
        x.cycles();
        x.bestVictims();
        Check.due("30: the new one", x.wouldEnd(), 1);
        x.wouldHappen(5, 0);
        Check.due("24 to 30: nothing changes", x.checksum(), before);
        Check.due("30: nothing is counted", x.told(7), granted);
        Check.due("29: nothing is counted", x.told(6), aborted);
    }
}

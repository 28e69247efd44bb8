/** Promises 31 to 36: the text, its fault, run, undo, the checksum. */
public final class ScriptsTest {
    public static void main(String[] args) {
        typing();
        faults();
        everyCommand();
        skippedCommands();
        refusedRun();
        oneRecord();
        records();
        undoneEverything();
        whatIsNotUndone();
        checksums();
        Check.done("ScriptsTest");
    }

    private static void typing() {
        ProbeLocks x = new ProbeLocks();
        int[] wrong = {-1, 0, 31, 127, 128, 256 + 65, Integer.MIN_VALUE, Integer.MAX_VALUE};
        for (int c : wrong) {
            Check.badValue("31: code", () -> x.type(c));
        }
        Check.due("31: the least code", x.type(32), 1);
        Check.due("31: the greatest code", x.type(126), 2);
        Check.due("32: clearText", x.clearText(), 2);
        Check.due("32: clearText again", x.clearText(), 0);
        for (int i = 1; i <= 120; i++) {
            Check.due("31: length", x.type(i % 3 == 1 ? 'd' : i % 3 == 2 ? '1' : ';'), i);
        }
        Check.badState("31: 120 characters", () -> x.type('d'));
        Check.badValue("31: the code comes first", () -> x.type(127));
        Check.due("33: a long script", x.fault(), -1);
        Check.due("34: a long script", x.run(), 40);
        Check.due("32: clearText", x.clearText(), 120);
    }

    private static void fault(String text, int due) {
        ProbeLocks x = new ProbeLocks();
        Check.type(x, text);
        Check.due("33: fault of '" + text + "'", x.fault(), due);
    }

    private static void faults() {
        fault("", -1);
        for (char letter : "tfabpd".toCharArray()) {
            fault(letter + "0;", -1);
            fault(letter + "00;", -1);
            fault(letter + "99;t1;", -1);
            fault(letter + "", 1);
            fault(letter + "1", 2);
            fault(letter + "12", 3);
            fault(letter + ";", 1);
            fault(letter + "1,2;", 2);
            fault(letter + "123;", 3);
        }
        for (char letter : "ql".toCharArray()) {
            fault(letter + "0,0;", -1);
            fault(letter + "10,15;", -1);
            fault(letter + "", 1);
            fault(letter + "1", 2);
            fault(letter + "1,", 3);
            fault(letter + "1,2", 4);
            fault(letter + "1;", 2);
            fault(letter + ",1;", 1);
            fault(letter + "1,;", 3);
            fault(letter + "1,2,3;", 4);
            fault(letter + "123,4;", 3);
            fault(letter + "1,234;", 5);
        }
        for (char other : " ;,0TQzceghijkmnorsuvwxy~".toCharArray()) {
            fault(other + "1;", 0);
            fault("t1;" + other, 3);
        }
        fault("t 1;", 1);
        fault("t1 ;", 2);
        fault("t1; ", 3);
        fault("t1;;", 3);
        fault("t-1;", 1);
        fault("t1/;", 2);
        fault("t1:;", 2);
    }

    private static ProbeLocks withResources(int resources) {
        ProbeLocks x = new ProbeLocks();
        for (int r = 0; r < resources; r++) {
            x.addResource(ProbeLocks.NONE);
        }
        return x;
    }

    private static int run(ProbeLocks x, String text) {
        Check.script(x, text);
        return x.run();
    }

    private static void everyCommand() {
        ProbeLocks x = withResources(12);
        Check.due("34: t", run(x, "t7;t99;t01;"), 3);
        Check.due("34: t", x.task(0, 1), 7);
        Check.due("34: t", x.task(1, 1), 99);
        Check.due("34: t", x.task(2, 1), 1);
        Check.due("34: q", run(x, "q0,0;q1,11;q02,3;"), 3);
        Check.due("34: q", x.task(1, 3), 1 << 11);
        Check.due("34: l", run(x, "l1,11;"), 1);
        Check.due("34: l", x.task(1, 3), 0);
        Check.due("34: a", run(x, "q1,1;a2;"), 2);
        Check.due("34: a", x.task(2, 0), 2);
        Check.due("34: b", run(x, "b2;"), 1);
        Check.due("34: b", x.task(2, 0), 0);
        Check.due("34: f", run(x, "f2;"), 1);
        Check.due("34: f", x.tasks(), 3);
        Check.due("34: p", run(x, "q0,1;q1,0;p0;p1;"), 4);
        Check.due("34: p", x.messages(), 2);
        Check.due("34: d", run(x, "d1;"), 1);
        Check.due("34: d", x.message(1, 3), 2);
        Check.due("34: d", run(x, "d99;"), 1);
        Check.due("34: d", x.latest(1), 0);
        Check.due("32: the text stays", x.clearText(), 4);
        Check.due("34: no command", x.run(), 0);
    }

    private static void skippedCommands() {
        ProbeLocks x = withResources(2);
        x.create(1);
        x.create(1);
        Check.due("34: each is refused", run(x, "t0;q2,0;q0,2;l0,0;l5,0;l0,9;f9;a2;b0;b7;p0;p10;d0;d00;"), 0);
        Check.due("34: the state may come to allow it", run(x, "b0;a0;a0;b0;q0,0;q0,0;l0,0;l0,0;f0;f0;"), 6);
        Check.due("34: gone", x.tasks(), 2);
        ProbeLocks full = withResources(0);
        Check.due("34: ten tasks at most", run(full, "t1;t1;t1;t1;t1;t1;t1;t1;t1;t1;t1;t1;"), 10);
        ProbeLocks waits = withResources(1);
        Check.due("34: a waiting task", run(waits, "t1;t1;q0,0;q1,0;q1,0;f1;b1;p1;p0;"), 5);
        Check.due("34: its probe", waits.messages(), 1);
    }

    private static void refusedRun() {
        ProbeLocks x = new ProbeLocks();
        Check.type(x, "t1;t2;t");
        long before = x.checksum();
        Check.badValue("34: a fault", () -> x.run());
        Check.due("34: nothing has been done", x.checksum(), before);
        Check.badState("34: no record", () -> x.undo());
        Check.type(x, "3;");
        Check.due("34: the fault is mended", x.run(), 3);
        Check.due("34: once more, the text is still there", x.run(), 3);
        Check.due("34: tasks", x.tasks(), 63);
    }

    private static void oneRecord() {
        ProbeLocks x = withResources(1);
        Check.due("34: run", run(x, "t1;t1;q0,0;q1,0;p1;d9;"), 6);
        Check.due("35: one change", x.undo(), 1);
        Check.due("35: all of it is undone", x.tasks(), 0);
        Check.due("35: the text stays", x.run(), 6);
        run(x, "f9;");
        run(x, "");
        Check.due("35: also if all were skipped, or there were none", x.undo(), 3);
        Check.due("35: also if all were skipped", x.undo(), 2);
        Check.due("35: tasks", x.tasks(), 3);
        Check.due("35: undo", x.undo(), 1);
        Check.due("35: tasks", x.tasks(), 0);
    }

    private static void records() {
        ProbeLocks x = new ProbeLocks();
        for (int t = 0; t < 8; t++) {
            x.create(1);
        }
        for (int left = 4; left >= 0; left--) {
            Check.due("35: records left", x.undo(), left);
            Check.due("35: tasks", x.tasks(), (1 << left + 3) - 1);
        }
        Check.badState("35: no more than five", () -> x.undo());
        x.create(1);
        Check.due("6: serial number", x.task(3, 2), 4);
        x.create(1);
        x.undo();
        x.create(2);
        Check.due("35: a record takes the place of the undone one", x.undo(), 1);
        Check.due("35: tasks", x.tasks(), 15);
    }

    /** Each undoable call leaves one record, also one that changes nothing; undo brings all back. */
    private static void undoneEverything() {
        ProbeLocks x = withResources(3);
        run(x, "t5;t4;t3;q0,0;q1,1;q0,1;a2;");
        for (int i = 0; i < 5; i++) {
            x.setBudget(4);
        }
        x.undo();
        long before = x.checksum();
        undone(x, before, "addResource", x.addResource(0));
        undone(x, before, "create", x.create(1));
        undone(x, before, "request", x.request(1, 0));
        undone(x, before, "request of what it holds", x.request(1, 1));
        undone(x, before, "release", x.release(1, 1));
        undone(x, before, "finish", x.finish(1));
        undone(x, before, "abort", x.abort(0));
        undone(x, before, "restart", x.restart(2));
        undone(x, before, "setPolicy", x.setPolicy(0));
        undone(x, before, "setRule", x.setRule(2));
        undone(x, before, "setBudget", x.setBudget(7));
        undone(x, before, "probe", x.probe(0));
        undone(x, before, "deliver", x.deliver(1));
        undone(x, before, "run", x.run());
    }

    private static void undone(ProbeLocks x, long before, String name, int answer) {
        Check.due("35: records before " + name + " (" + answer + ")", x.undo(), 4);
        Check.due("35: undo of " + name, x.checksum(), before);
    }

    private static void whatIsNotUndone() {
        ProbeLocks x = withResources(1);
        x.create(1);
        long before = x.checksum();
        x.type('t');
        x.fault();
        x.clearText();
        x.waiting(0);
        x.wouldHappen(0, 0);
        x.wouldEnd();
        x.bestVictims();
        Check.due("36: what is not undoable leaves no record", x.checksum(), before);
        x.type('t');
        x.undo();
        Check.due("35: the text is not undone", x.clearText(), 1);
        Check.due("35: the task is", x.tasks(), 0);
    }

    private static long sum(int... values) {
        long h = 18547;
        for (int v : values) {
            h = 31 * h + v;
        }
        return h;
    }

    private static void checksums() {
        Check.due("36: a new object", new ProbeLocks().checksum(), sum(0, 0, 0, 0, 4, 0, 0, 0, 0, 0));
        ProbeLocks x = withResources(2);
        x.addResource(1);
        Check.script(x, "t7;t8;t9;q0,0;q1,1;f2;q0,2;q1,0;p1;p0;d1;t6;f0;");
        x.setRule(1);
        x.setBudget(9);
        x.run();
        Check.due("36: everything", x.checksum(), sum(3, -1, -1, 1, 7,
                1, 7, 1, 1, 2, 2, 0,
                1, 8, 2, 2, 0, 1, 1,
                0, 6, 4, 0, -1, 0, -1,
                0, 1, 9, 2,
                0, 1, 8, 1, 1,
                1, 1, 7, 2, 3,
                3, 3, 47, 5));
        x.setPolicy(2);
        x.deliver(2);
        Check.due("36: afterwards", x.checksum(), sum(3, -1, -1, 1, 7,
                0, 7, 1, 5, -1, 0, -1,
                2, 8, 2, 0, -1, 0, -1,
                0, 6, 4, 0, -1, 0, -1,
                2, 1, 9, 1,
                0, 0, 7, 2, 3,
                0, 0, 47, 5));
    }
}

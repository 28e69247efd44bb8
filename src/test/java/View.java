/**
 * All that can be seen of a manager, as a text. Two managers that were set up alike, one of which
 * was then asked or refused something, must show the same: nothing has been changed.
 */
final class View {
    private View() {
    }

    /** What can be seen by looking alone; what one must act for to see it is shown by the two below. */
    static String of(ProbeLocks x) {
        StringBuilder s = new StringBuilder("sum " + x.checksum() + " fault " + x.fault() + " told");
        for (int what = 0; what <= 7; what++) {
            s.append(' ').append(x.told(what));
        }
        s.append(" latest ").append(x.latest(0)).append(' ').append(x.latest(1)).append(' ').append(x.latest(2));
        return s.append('\n').toString();
    }

    /** Undoes all that can be undone, which shows what was recorded; uses the manager up. */
    static String back(ProbeLocks x) {
        StringBuilder s = new StringBuilder(of(x));
        for (int i = 0; i < 6; i++) {
            s.append("undo ").append(Check.outcome(() -> x.undo())).append(' ').append(of(x));
            s.append("it had ").append(x.resources()).append(' ').append(x.tasks()).append('\n');
        }
        return s + next(x);
    }

    /** Goes on: the text is ended and run, the messages are delivered, all is undone; uses the manager up. */
    static String onward(ProbeLocks x) {
        StringBuilder s = new StringBuilder(of(x));
        s.append("type ").append(Check.outcome(() -> x.type(';'))).append(' ').append(of(x));
        s.append("deliver ").append(Check.outcome(() -> x.deliver(99))).append(' ').append(of(x));
        s.append("run ").append(Check.outcome(() -> x.run())).append(' ').append(of(x));
        s.append(next(x));
        for (int i = 0; i < 6; i++) {
            s.append("undo ").append(Check.outcome(() -> x.undo())).append(" sum ").append(x.checksum()).append('\n');
        }
        return s.toString();
    }

    /** The next serial number shows only in a task that is made with it; the last of ten makes room for it. */
    private static String next(ProbeLocks x) {
        if ((x.tasks() >> 9 & 1) != 0) {
            Check.outcome(() -> x.abort(9));
            Check.outcome(() -> x.restart(9));
            Check.outcome(() -> x.finish(9));
        }
        String made = Check.outcome(() -> x.create(1));
        String serials = "";
        for (int t = 0; t < 10; t++) {
            serials += (x.tasks() >> t & 1) != 0 ? " " + x.task(t, 2) : "";
        }
        return "create " + made + ", serial numbers" + serials + "\n";
    }
}

import java.util.ArrayDeque;
import java.util.ArrayList;
import java.util.List;
import java.util.Map;
import java.util.Set;
import java.util.TreeMap;
import java.util.TreeSet;
import java.util.regex.Matcher;
import java.util.regex.Pattern;

/**
 * The document once more, as literally and with as few ideas as possible: sets and lists, walks
 * over every path, every subset, a regular expression for scripts. Only for comparing.
 */
final class NaiveLocks {
    private static final Pattern SCRIPT = Pattern.compile(
            "([tfabpd][0-9]{1,2};|[ql][0-9]{1,2},[0-9]{1,2};)*");

    private static final class Task {
        int cost;
        int serial;
        int state;
        int wants = -1;
        final Set<Integer> held = new TreeSet<>();

        Task copy() {
            Task c = new Task();
            c.cost = cost;
            c.serial = serial;
            c.state = state;
            c.wants = wants;
            c.held.addAll(held);
            return c;
        }
    }

    private static final class Message {
        final List<Integer> path;
        final int target;
        final int hops;

        Message(List<Integer> path, int target, int hops) {
            this.path = path;
            this.target = target;
            this.hops = hops;
        }
    }

    private static final class State {
        final List<Integer> parents = new ArrayList<>();
        final Map<Integer, Task> tasks = new TreeMap<>();
        final List<Integer> order = new ArrayList<>();
        final List<Message> messages = new ArrayList<>();
        int policy;
        int rule;
        int budget = 4;
        int next = 1;

        State copy() {
            State c = new State();
            c.parents.addAll(parents);
            tasks.forEach((n, t) -> c.tasks.put(n, t.copy()));
            c.order.addAll(order);
            c.messages.addAll(messages);
            c.policy = policy;
            c.rule = rule;
            c.budget = budget;
            c.next = next;
            return c;
        }
    }

    private State s = new State();
    private final ArrayDeque<State> records = new ArrayDeque<>();
    private final StringBuilder text = new StringBuilder();
    private int[] told = new int[8];
    private final int[] latest = {-1, -1, -1};
    private boolean inScript;

    private void record() {
        if (inScript) {
            return;
        }
        records.addLast(s.copy());
        if (records.size() > 5) {
            records.removeFirst();
        }
    }

    private void things(boolean there) {
        if (!there) {
            throw new IndexOutOfBoundsException();
        }
    }

    private void value(boolean good) {
        if (!good) {
            throw new IllegalArgumentException();
        }
    }

    private void state(boolean right) {
        if (!right) {
            throw new IllegalStateException();
        }
    }

    private boolean isResource(int r) {
        return r >= 0 && r < s.parents.size();
    }

    private boolean isAncestor(int ancestor, int r) {
        for (int up = s.parents.get(r); up != -1; up = s.parents.get(up)) {
            if (up == ancestor) {
                return true;
            }
        }
        return false;
    }

    private boolean overlaps(int a, int b) {
        return a == b || isAncestor(a, b) || isAncestor(b, a);
    }

    private Set<Integer> inWay(int task, int resource) {
        Set<Integer> set = new TreeSet<>();
        s.tasks.forEach((n, t) -> {
            if (n != task && t.held.stream().anyMatch(h -> overlaps(h, resource))) {
                set.add(n);
            }
        });
        return set;
    }

    private Set<Integer> waitsFor(int task) {
        Task t = s.tasks.get(task);
        return t == null || t.state != 1 ? new TreeSet<>() : inWay(task, t.wants);
    }

    private static int mask(Iterable<Integer> set) {
        int m = 0;
        for (int n : set) {
            m |= 1 << n;
        }
        return m;
    }

    private void grant(int task, int resource) {
        Task t = s.tasks.get(task);
        t.held.add(resource);
        t.state = 0;
        t.wants = -1;
        told[7]++;
    }

    private void settle() {
        boolean again = true;
        while (again) {
            again = false;
            for (int n : s.order) {
                if (waitsFor(n).isEmpty()) {
                    grant(n, s.tasks.get(n).wants);
                    s.order.remove((Integer) n);
                    again = true;
                    break;
                }
            }
        }
    }

    private void abortTask(int task) {
        Task t = s.tasks.get(task);
        t.held.clear();
        t.wants = -1;
        t.state = 2;
        s.order.remove((Integer) task);
        told[6]++;
    }

    int addResource(int parent) {
        things(parent == -1 || isResource(parent));
        state(s.parents.size() < 16);
        record();
        s.parents.add(parent);
        return s.parents.size() - 1;
    }

    int resources() {
        return s.parents.size();
    }

    int resource(int r, int what) {
        things(isResource(r));
        value(what >= 0 && what <= 4);
        Set<Integer> set = new TreeSet<>();
        if (what == 0) {
            return s.parents.get(r);
        }
        for (int o = 0; o < s.parents.size(); o++) {
            if (what == 1 ? isAncestor(o, r) : o == r || isAncestor(r, o)) {
                set.add(o);
            }
        }
        if (what == 1) {
            return set.size();
        }
        if (what == 2) {
            return mask(set);
        }
        if (what == 4) {
            return mask(inWay(-1, r));
        }
        for (int n : s.tasks.keySet()) {
            for (int h : s.tasks.get(n).held) {
                if (h == r || isAncestor(h, r)) {
                    return n;
                }
            }
        }
        return -1;
    }

    int overlap(int one, int other) {
        things(isResource(one) && isResource(other));
        return overlaps(one, other) ? 1 : 0;
    }

    int create(int cost) {
        value(cost >= 1 && cost <= 99);
        state(s.tasks.size() < 10);
        record();
        int n = 0;
        while (s.tasks.containsKey(n)) {
            n++;
        }
        Task t = new Task();
        t.cost = cost;
        t.serial = s.next++;
        s.tasks.put(n, t);
        return n;
    }

    int request(int task, int resource) {
        things(s.tasks.containsKey(task) && isResource(resource));
        state(s.tasks.get(task).state == 0);
        record();
        Task t = s.tasks.get(task);
        for (int h : t.held) {
            if (h == resource || isAncestor(h, resource)) {
                return 0;
            }
        }
        Set<Integer> way = inWay(task, resource);
        boolean aborted = false;
        boolean waits = true;
        if (way.isEmpty()) {
            grant(task, resource);
            return 0;
        }
        if (s.policy == 1) {
            for (int n : way) {
                waits = waits && t.serial < s.tasks.get(n).serial;
            }
            if (!waits) {
                abortTask(task);
                aborted = true;
            }
        }
        if (s.policy == 2) {
            for (int n : way) {
                if (s.tasks.get(n).serial > t.serial) {
                    abortTask(n);
                    aborted = true;
                }
            }
            if (inWay(task, resource).isEmpty()) {
                grant(task, resource);
                waits = false;
            }
        }
        if (waits) {
            t.state = 1;
            t.wants = resource;
            s.order.add(task);
        }
        if (aborted) {
            settle();
        }
        return t.state;
    }

    int release(int task, int resource) {
        things(s.tasks.containsKey(task) && isResource(resource));
        state(s.tasks.get(task).held.contains(resource));
        record();
        s.tasks.get(task).held.remove(resource);
        settle();
        return s.tasks.get(task).held.size();
    }

    int finish(int task) {
        things(s.tasks.containsKey(task));
        state(s.tasks.get(task).state == 0);
        record();
        int held = s.tasks.remove(task).held.size();
        settle();
        return held;
    }

    int abort(int task) {
        things(s.tasks.containsKey(task));
        state(s.tasks.get(task).state != 2);
        record();
        int held = s.tasks.get(task).held.size();
        abortTask(task);
        settle();
        return held;
    }

    int restart(int task) {
        things(s.tasks.containsKey(task));
        state(s.tasks.get(task).state == 2);
        record();
        s.tasks.get(task).state = 0;
        return s.tasks.get(task).serial;
    }

    int tasks() {
        return mask(s.tasks.keySet());
    }

    int task(int task, int what) {
        things(s.tasks.containsKey(task));
        value(what >= 0 && what <= 6);
        Task t = s.tasks.get(task);
        int[] all = {t.state, t.cost, t.serial, mask(t.held), t.wants, mask(waitsFor(task)), s.order.indexOf(task)};
        return all[what];
    }

    int waiting(int k) {
        return k >= 0 && k < s.order.size() ? s.order.get(k) : -1;
    }

    /** Tries it on a copy and looks at what has become of everybody. */
    int wouldHappen(int task, int resource) {
        things(s.tasks.containsKey(task) && isResource(resource));
        state(s.tasks.get(task).state == 0);
        State before = s;
        int[] counts = told;
        s = s.copy();
        told = new int[8];
        inScript = true;
        int then = request(task, resource);
        inScript = false;
        int aborts = told[6];
        s = before;
        told = counts;
        return then == 2 ? 2 : aborts > 0 ? 3 + then : then;
    }

    int setPolicy(int policy) {
        value(policy >= 0 && policy <= 2);
        record();
        int old = s.policy;
        s.policy = policy;
        return old;
    }

    int setRule(int rule) {
        value(rule >= 0 && rule <= 2);
        record();
        int old = s.rule;
        s.rule = rule;
        return old;
    }

    int setBudget(int hops) {
        value(hops >= 1 && hops <= 9);
        record();
        int old = s.budget;
        s.budget = hops;
        return old;
    }

    private void send(Message m) {
        if (s.messages.size() == 40) {
            told[1]++;
        } else {
            told[0]++;
            s.messages.add(m);
        }
    }

    int probe(int task) {
        things(s.tasks.containsKey(task));
        state(s.tasks.get(task).state == 1);
        record();
        for (int n : waitsFor(task)) {
            send(new Message(List.of(task), n, s.budget - 1));
        }
        return s.messages.size();
    }

    int deliver(int n) {
        value(n >= 1 && n <= 99);
        record();
        int done = 0;
        while (done < n && !s.messages.isEmpty()) {
            deliverOne(s.messages.remove(0));
            done++;
        }
        return done;
    }

    private boolean isStale(Message m) {
        for (int i = 0; i < m.path.size(); i++) {
            Task t = s.tasks.get(m.path.get(i));
            if (t == null || t.state != 1) {
                return true;
            }
            int after = i + 1 < m.path.size() ? m.path.get(i + 1) : m.target;
            if (!waitsFor(m.path.get(i)).contains(after)) {
                return true;
            }
        }
        return false;
    }

    private void deliverOne(Message m) {
        int initiator = m.path.get(0);
        if (isStale(m)) {
            told[2]++;
            return;
        }
        if (m.target == initiator) {
            told[4]++;
            int victim = victim(m.path);
            latest[0] = mask(m.path);
            latest[1] = victim;
            latest[2] = initiator;
            abortTask(victim);
            settle();
            return;
        }
        if (s.tasks.get(m.target).state != 1 || m.path.contains(m.target)) {
            return;
        }
        if (m.hops == 0) {
            told[3]++;
            if (liesOnCycle(initiator)) {
                told[5]++;
            }
            return;
        }
        List<Integer> longer = new ArrayList<>(m.path);
        longer.add(m.target);
        for (int n : waitsFor(m.target)) {
            send(new Message(longer, n, m.hops - 1));
        }
    }

    private int victim(List<Integer> ring) {
        List<Integer> all = new ArrayList<>(ring);
        all.sort((a, b) -> s.tasks.get(b).serial - s.tasks.get(a).serial);
        if (s.rule == 0) {
            all.sort((a, b) -> s.tasks.get(a).cost - s.tasks.get(b).cost);
        }
        if (s.rule == 2) {
            all.sort((a, b) -> s.tasks.get(a).held.size() - s.tasks.get(b).held.size());
        }
        return all.get(0);
    }

    int messages() {
        return s.messages.size();
    }

    int message(int k, int what) {
        value(what >= 0 && what <= 4);
        if (k < 0 || k >= s.messages.size()) {
            return -1;
        }
        Message m = s.messages.get(k);
        int[] all = {m.path.get(0), m.target, m.hops, m.path.size(), mask(m.path)};
        return all[what];
    }

    int told(int what) {
        value(what >= 0 && what <= 7);
        return told[what];
    }

    private Set<Integer> reachable(int task) {
        Set<Integer> seen = new TreeSet<>();
        ArrayDeque<Integer> todo = new ArrayDeque<>(waitsFor(task));
        while (!todo.isEmpty()) {
            int n = todo.pop();
            if (seen.add(n)) {
                todo.addAll(waitsFor(n));
            }
        }
        return seen;
    }

    private boolean liesOnCycle(int task) {
        return reachable(task).contains(task);
    }

    int onCycles() {
        Set<Integer> set = new TreeSet<>(s.tasks.keySet());
        set.removeIf(n -> !liesOnCycle(n));
        return mask(set);
    }

    int stuck() {
        int on = onCycles();
        Set<Integer> set = new TreeSet<>(s.tasks.keySet());
        set.removeIf(n -> ((mask(reachable(n)) | 1 << n) & on) == 0);
        return mask(set);
    }

    int shortestCycle(int task) {
        things(s.tasks.containsKey(task));
        Set<Integer> front = waitsFor(task);
        for (int length = 1; length <= 10; length++) {
            if (front.contains(task)) {
                return length;
            }
            Set<Integer> after = new TreeSet<>();
            for (int n : front) {
                after.addAll(waitsFor(n));
            }
            front = after;
        }
        return -1;
    }

    /** Walks every ring, from its lowest task. */
    int cycles() {
        int[] out = new int[10];
        for (int n = 0; n < 10; n++) {
            out[n] = mask(waitsFor(n));
        }
        int count = 0;
        for (int n = 0; n < 10; n++) {
            count += walk(out, n, n, 1 << n);
        }
        return count;
    }

    private static int walk(int[] out, int start, int at, int path) {
        int count = (out[at] >> start & 1);
        for (int n = start + 1; n < 10; n++) {
            if ((out[at] >> n & 1) != 0 && (path >> n & 1) == 0) {
                count += walk(out, start, n, path | 1 << n);
            }
        }
        return count;
    }

    int latest(int what) {
        value(what >= 0 && what <= 2);
        return latest[what];
    }

    /** Aborts each set of tasks on a copy, and looks whether a cycle is left. */
    int bestVictims() {
        int best = -1;
        int bestCost = 0;
        State before = s;
        int[] counts = told;
        told = new int[8];
        for (int set = 0; set < 1024; set++) {
            if ((set & ~mask(before.tasks.keySet())) != 0) {
                continue;
            }
            s = before.copy();
            int cost = 0;
            for (int n = 0; n < 10; n++) {
                if ((set >> n & 1) != 0) {
                    cost += s.tasks.get(n).cost;
                    abortTask(n);
                }
            }
            boolean better = best == -1 || cost < bestCost
                    || cost == bestCost && Integer.bitCount(set) < Integer.bitCount(best);
            if (better && onCycles() == 0) {
                best = set;
                bestCost = cost;
            }
        }
        s = before;
        told = counts;
        return best;
    }

    int wouldEnd() {
        State before = s;
        int[] counts = told;
        told = new int[8];
        s = s.copy();
        inScript = true;
        int ended = 0;
        boolean again = true;
        while (again) {
            again = false;
            for (int n : new ArrayList<>(s.tasks.keySet())) {
                if (s.tasks.get(n).state == 0) {
                    finish(n);
                    ended++;
                    again = true;
                    break;
                }
            }
        }
        inScript = false;
        s = before;
        told = counts;
        return ended;
    }

    int type(int c) {
        value(c >= 32 && c <= 126);
        state(text.length() < 120);
        text.append((char) c);
        return text.length();
    }

    int clearText() {
        int had = text.length();
        text.setLength(0);
        return had;
    }

    /** A character is allowed if some script goes on from the text up to it. */
    int fault() {
        for (int i = 0; i < text.length(); i++) {
            Matcher m = SCRIPT.matcher(text.substring(0, i + 1));
            if (!m.matches() && !m.hitEnd()) {
                return i;
            }
        }
        return SCRIPT.matcher(text).matches() ? -1 : text.length();
    }

    int run() {
        value(fault() == -1);
        record();
        inScript = true;
        int done = 0;
        for (String command : text.toString().split(";")) {
            if (!command.isEmpty() && carryOut(command)) {
                done++;
            }
        }
        inScript = false;
        return done;
    }

    private boolean carryOut(String command) {
        String[] numbers = command.substring(1).split(",");
        int a = Integer.parseInt(numbers[0]);
        int b = numbers.length > 1 ? Integer.parseInt(numbers[1]) : 0;
        try {
            switch (command.charAt(0)) {
                case 't' -> create(a);
                case 'q' -> request(a, b);
                case 'l' -> release(a, b);
                case 'f' -> finish(a);
                case 'a' -> abort(a);
                case 'b' -> restart(a);
                case 'p' -> probe(a);
                default -> deliver(a);
            }
            return true;
        } catch (IllegalArgumentException | IllegalStateException | IndexOutOfBoundsException e) {
            return false;
        }
    }

    int undo() {
        state(!records.isEmpty());
        s = records.removeLast();
        return records.size();
    }

    long checksum() {
        List<Integer> v = new ArrayList<>();
        v.add(s.parents.size());
        v.addAll(s.parents);
        v.add(tasks());
        for (int n : s.tasks.keySet()) {
            for (int what = 0; what <= 6; what++) {
                v.add(task(n, what));
            }
        }
        v.add(s.policy);
        v.add(s.rule);
        v.add(s.budget);
        v.add(s.messages.size());
        for (int k = 0; k < s.messages.size(); k++) {
            for (int what = 0; what <= 4; what++) {
                v.add(message(k, what));
            }
        }
        v.add(onCycles());
        v.add(stuck());
        v.add(text.length());
        v.add(records.size());
        long h = 18547;
        for (int n : v) {
            h = 31 * h + n;
        }
        return h;
    }
}

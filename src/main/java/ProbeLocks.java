/**
 * A lock manager for resources that form trees, with tasks that wait for one another,
 * probes that look for deadlocks, exact analysis, scripts and undo.
 *
 * The face tests what it is given and refuses it; what stands behind the face is only called
 * with what has been tested, so that a refused call has changed nothing.
 */
public final class ProbeLocks {
    /** Returned where there is no such thing. */
    public static final int NONE = -1;

    private static final int MAX_RESOURCES = 16;
    private static final int MAX_TASKS = 10;
    private static final int MAX_COST = 99;
    private static final int MAX_MESSAGES = 40;
    private static final int MAX_DELIVERED = 99;
    private static final int MAX_TEXT = 120;
    private static final int MAX_DIGITS = 2;
    private static final int MAX_RECORDS = 5;
    private static final int MAX_BUDGET = 9;
    private static final int FIRST_BUDGET = 4;
    private static final long FIRST_SUM = 18547L;

    private static final int RUNNING = 0;
    private static final int WAITING = 1;
    private static final int ABORTED = 2;

    private static final int WAIT_OR_DIE = 1;
    private static final int WOUND_OR_WAIT = 2;

    private static final int LEAST_COST = 0;
    private static final int FEWEST_HELD = 2;

    private static final int GRANT = 0;
    private static final int WAIT = 1;
    private static final int DIE = 2;
    private static final int WOUND_AND_GRANT = 3;
    private static final int WOUND_AND_WAIT = 4;

    private static final int SENT = 0;
    private static final int LOST = 1;
    private static final int STALE = 2;
    private static final int SPENT = 3;
    private static final int FOUND = 4;
    private static final int MISSED = 5;
    private static final int ABORTS = 6;
    private static final int GRANTS = 7;
    private static final int COUNTS = 8;

    private final Books books = new Books();
    private final Books spare = new Books();
    private final Tally tally = new Tally();
    private final Waits waits = new Waits();
    private final Desk desk = new Desk(books, tally, waits);
    private final History history = new History();
    private final Script script = new Script();

    public ProbeLocks() {
    }

    // ---- resources

    public int addResource(int parent) throws IndexOutOfBoundsException, IllegalStateException {
        needThing(parent == NONE || books.forest.has(parent));
        needState(books.forest.size < MAX_RESOURCES);
        history.keep(books);
        return books.forest.grow(parent);
    }

    public int resources() {
        return books.forest.size;
    }

    public int resource(int resource, int what) throws IndexOutOfBoundsException, IllegalArgumentException {
        needThing(books.forest.has(resource));
        needValue(isWithin(what, 0, 4));
        switch (what) {
            case 0: return books.forest.parent[resource];
            case 1: return Integer.bitCount(books.forest.above[resource]) - 1;
            case 2: return books.forest.below[resource];
            case 3: return books.ownerOf(resource);
            default: return books.holdersInWay(NONE, resource);
        }
    }

    public boolean overlap(int one, int other) throws IndexOutOfBoundsException {
        needThing(books.forest.has(one) && books.forest.has(other));
        return inSet(books.forest.above[one] | books.forest.below[one], other);
    }

    // ---- tasks

    public int create(int cost) throws IllegalArgumentException, IllegalStateException {
        needValue(isWithin(cost, 1, MAX_COST));
        needState(books.freeNumber() != NONE);
        history.keep(books);
        return books.enroll(cost);
    }

    public int request(int task, int resource) throws IndexOutOfBoundsException, IllegalStateException {
        needThing(books.has(task) && books.forest.has(resource));
        needState(books.isIn(task, RUNNING));
        history.keep(books);
        return desk.ask(task, resource);
    }

    public int release(int task, int resource) throws IndexOutOfBoundsException, IllegalStateException {
        needThing(books.has(task) && books.forest.has(resource));
        needState(books.holds(task, resource));
        history.keep(books);
        return desk.giveBack(task, resource);
    }

    public int finish(int task) throws IndexOutOfBoundsException, IllegalStateException {
        needThing(books.has(task));
        needState(books.isIn(task, RUNNING));
        history.keep(books);
        return desk.end(task);
    }

    public int abort(int task) throws IndexOutOfBoundsException, IllegalStateException {
        needThing(books.has(task));
        needState(!books.isIn(task, ABORTED));
        history.keep(books);
        return desk.kill(task);
    }

    public int restart(int task) throws IndexOutOfBoundsException, IllegalStateException {
        needThing(books.has(task));
        needState(books.isIn(task, ABORTED));
        history.keep(books);
        return books.revive(task);
    }

    public int tasks() {
        return books.alive;
    }

    public int task(int task, int what) throws IndexOutOfBoundsException, IllegalArgumentException {
        needThing(books.has(task));
        needValue(isWithin(what, 0, 6));
        switch (what) {
            case 0: return books.state[task];
            case 1: return books.cost[task];
            case 2: return books.serial[task];
            case 3: return books.held[task];
            case 4: return books.wanted[task];
            case 5: return books.waitsFor(task);
            default: return books.positionOf(task);
        }
    }

    public int waiting(int k) {
        return isWithin(k, 0, books.queued - 1) ? books.order[k] : NONE;
    }

    public int wouldHappen(int task, int resource) throws IndexOutOfBoundsException, IllegalStateException {
        needThing(books.has(task) && books.forest.has(resource));
        needState(books.isIn(task, RUNNING));
        return desk.outcomeOf(task, resource);
    }

    // ---- settings

    public int setPolicy(int policy) throws IllegalArgumentException {
        needValue(isWithin(policy, 0, 2));
        history.keep(books);
        int previous = books.policy;
        books.policy = policy;
        return previous;
    }

    public int setRule(int rule) throws IllegalArgumentException {
        needValue(isWithin(rule, 0, 2));
        history.keep(books);
        int previous = books.rule;
        books.rule = rule;
        return previous;
    }

    public int setBudget(int hops) throws IllegalArgumentException {
        needValue(isWithin(hops, 1, MAX_BUDGET));
        history.keep(books);
        int previous = books.budget;
        books.budget = hops;
        return previous;
    }

    // ---- probes

    public int probe(int task) throws IndexOutOfBoundsException, IllegalStateException {
        needThing(books.has(task));
        needState(books.isIn(task, WAITING));
        history.keep(books);
        return desk.startProbe(task);
    }

    public int deliver(int n) throws IllegalArgumentException {
        needValue(isWithin(n, 1, MAX_DELIVERED));
        history.keep(books);
        return desk.deliverUpTo(n);
    }

    public int messages() {
        return books.mail.size;
    }

    public int message(int k, int what) throws IllegalArgumentException {
        needValue(isWithin(what, 0, 4));
        return books.mail.property(k, what);
    }

    public int told(int what) throws IllegalArgumentException {
        needValue(isWithin(what, 0, COUNTS - 1));
        return tally.counts[what];
    }

    // ---- analysis

    public int onCycles() {
        waits.read(books);
        return waits.onRing;
    }

    public int stuck() {
        waits.read(books);
        return waits.leadingToRings();
    }

    public int shortestCycle(int task) throws IndexOutOfBoundsException {
        needThing(books.has(task));
        waits.read(books);
        return waits.shortestRing(task);
    }

    public int cycles() {
        waits.read(books);
        return waits.countRings();
    }

    public int latest(int what) throws IllegalArgumentException {
        needValue(isWithin(what, 0, 2));
        switch (what) {
            case 0: return tally.latestRing;
            case 1: return tally.latestVictim;
            default: return tally.latestInitiator;
        }
    }

    public int bestVictims() {
        waits.read(books);
        return waits.leastVictims(books.cost);
    }

    public int wouldEnd() {
        spare.copyFrom(books);
        int ended = 0;
        for (int round = 0; round < MAX_TASKS; round++) {
            int lowest = spare.lowestRunning();
            if (lowest == NONE) {
                return ended;
            }
            spare.dismiss(lowest);
            spare.settle();
            ended++;
        }
        return ended;
    }

    // ---- scripts, undo

    public int type(int c) throws IllegalArgumentException, IllegalStateException {
        needValue(isWithin(c, 32, 126));
        needState(script.length < MAX_TEXT);
        return script.append(c);
    }

    public int clearText() {
        int had = script.length;
        script.length = 0;
        return had;
    }

    public int fault() {
        return script.firstFault();
    }

    public int run() throws IllegalArgumentException {
        needValue(script.firstFault() == NONE);
        history.keep(books);
        int carriedOut = 0;
        int letter = 0;
        int first = 0;
        int last = 0;
        for (int i = 0; i < script.length && i < MAX_TEXT; i++) {
            int c = script.text[i];
            if (c == ';') {
                if (isAllowed(letter, first, last)) {
                    carryOut(letter, first, last);
                    carriedOut++;
                }
            } else if (c == ',') {
                first = last;
                last = 0;
            } else if (isDigit(c)) {
                last = last * 10 + c - '0';
            } else {
                letter = c;
                last = 0;
            }
        }
        return carriedOut;
    }

    public int undo() throws IllegalStateException {
        needState(history.size > 0);
        history.bringBack(books);
        return history.size;
    }

    public long checksum() {
        long h = mix(FIRST_SUM, books.forest.size);
        for (int r = 0; r < books.forest.size && r < MAX_RESOURCES; r++) {
            h = mix(h, books.forest.parent[r]);
        }
        h = mix(h, books.alive);
        for (int t = 0; t < MAX_TASKS; t++) {
            for (int what = 0; what <= 6 && books.has(t); what++) {
                h = mix(h, task(t, what));
            }
        }
        h = mix(mix(mix(h, books.policy), books.rule), books.budget);
        h = mix(h, books.mail.size);
        for (int k = 0; k < books.mail.size && k < MAX_MESSAGES; k++) {
            for (int what = 0; what <= 4; what++) {
                h = mix(h, books.mail.property(k, what));
            }
        }
        waits.read(books);
        h = mix(mix(h, waits.onRing), waits.leadingToRings());
        return mix(mix(h, script.length), history.size);
    }

    // ---- behind the face

    /** The same conditions as those of the calls, asked without throwing, for run() skips instead. */
    private boolean isAllowed(int letter, int first, int last) {
        switch (letter) {
            case 't': return isWithin(last, 1, MAX_COST) && books.freeNumber() != NONE;
            case 'q': return books.isIn(first, RUNNING) && books.forest.has(last);
            case 'l': return books.holds(first, last);
            case 'f': return books.isIn(last, RUNNING);
            case 'a': return books.has(last) && !books.isIn(last, ABORTED);
            case 'b': return books.isIn(last, ABORTED);
            case 'p': return books.isIn(last, WAITING);
            case 'd': return isWithin(last, 1, MAX_DELIVERED);
            default: return false;
        }
    }

    private void carryOut(int letter, int first, int last) {
        switch (letter) {
            case 't': books.enroll(last); break;
            case 'q': desk.ask(first, last); break;
            case 'l': desk.giveBack(first, last); break;
            case 'f': desk.end(last); break;
            case 'a': desk.kill(last); break;
            case 'b': books.revive(last); break;
            case 'p': desk.startProbe(last); break;
            case 'd': desk.deliverUpTo(last); break;
            default: break;
        }
    }

    private static void needThing(boolean isThere) {
        if (!isThere) {
            throw new IndexOutOfBoundsException("there is no such task or resource");
        }
    }

    private static void needValue(boolean isGood) {
        if (!isGood) {
            throw new IllegalArgumentException("the argument is out of range, or the text has a fault");
        }
    }

    private static void needState(boolean isRight) {
        if (!isRight) {
            throw new IllegalStateException("the state does not allow this call");
        }
    }

    private static boolean isWithin(int value, int low, int high) {
        return value >= low && value <= high;
    }

    private static boolean isDigit(int c) {
        return isWithin(c, '0', '9');
    }

    private static boolean inSet(int set, int number) {
        return (set >> number & 1) != 0;
    }

    private static long mix(long h, long v) {
        return 31L * h + v;
    }

    /** The resources. What lies above and below each is kept, since every question about locks asks it. */
    private static final class Forest {
        final int[] parent = new int[MAX_RESOURCES];
        /** Each resource itself with its ancestors. */
        final int[] above = new int[MAX_RESOURCES];
        /** Each resource itself with those below it. */
        final int[] below = new int[MAX_RESOURCES];
        int size;

        boolean has(int resource) {
            return resource >= 0 && resource < size && resource < MAX_RESOURCES;
        }

        int grow(int newParent) {
            int fresh = size;
            if (fresh >= MAX_RESOURCES) {
                return NONE;
            }
            parent[fresh] = newParent;
            above[fresh] = 1 << fresh | (has(newParent) ? above[newParent] : 0);
            for (int r = 0; r <= fresh; r++) {
                if (inSet(above[fresh], r)) {
                    below[r] |= 1 << fresh;
                }
            }
            size = fresh + 1;
            return fresh;
        }

        void copyFrom(Forest other) {
            System.arraycopy(other.parent, 0, parent, 0, MAX_RESOURCES);
            System.arraycopy(other.above, 0, above, 0, MAX_RESOURCES);
            System.arraycopy(other.below, 0, below, 0, MAX_RESOURCES);
            size = other.size;
        }
    }

    /**
     * The messages that are not delivered yet, in a ring of rows. A path is one long, four bits for
     * each task, so that sending makes no object.
     */
    private static final class Mail {
        final long[] path = new long[MAX_MESSAGES];
        final int[] length = new int[MAX_MESSAGES];
        final int[] target = new int[MAX_MESSAGES];
        final int[] hops = new int[MAX_MESSAGES];
        int first;
        int size;

        static int taskAt(long path, int position) {
            return (int) (path >>> 4 * position) & 15;
        }

        static long extended(long path, int length, int task) {
            return path | (long) task << 4 * length;
        }

        static int members(long path, int length) {
            int set = 0;
            for (int i = 0; i < length; i++) {
                set |= 1 << taskAt(path, i);
            }
            return set;
        }

        int rowOf(int k) {
            return (first + k) % MAX_MESSAGES;
        }

        boolean send(long newPath, int newLength, int newTarget, int newHops) {
            if (size >= MAX_MESSAGES) {
                return false;
            }
            int row = rowOf(size);
            path[row] = newPath;
            length[row] = newLength;
            target[row] = newTarget;
            hops[row] = newHops;
            size++;
            return true;
        }

        void dropFirst() {
            if (size > 0) {
                first = rowOf(1);
                size--;
            }
        }

        int property(int k, int what) {
            if (k < 0 || k >= size) {
                return NONE;
            }
            int row = rowOf(k);
            switch (what) {
                case 0: return taskAt(path[row], 0);
                case 1: return target[row];
                case 2: return hops[row];
                case 3: return length[row];
                default: return members(path[row], length[row]);
            }
        }

        void copyFrom(Mail other) {
            System.arraycopy(other.path, 0, path, 0, MAX_MESSAGES);
            System.arraycopy(other.length, 0, length, 0, MAX_MESSAGES);
            System.arraycopy(other.target, 0, target, 0, MAX_MESSAGES);
            System.arraycopy(other.hops, 0, hops, 0, MAX_MESSAGES);
            first = other.first;
            size = other.size;
        }
    }

    /** All that undo() brings back, with the steps that change it; nothing is counted here. */
    private static final class Books {
        final Forest forest = new Forest();
        final Mail mail = new Mail();
        final int[] cost = new int[MAX_TASKS];
        final int[] serial = new int[MAX_TASKS];
        final int[] state = new int[MAX_TASKS];
        final int[] held = new int[MAX_TASKS];
        final int[] wanted = new int[MAX_TASKS];
        final int[] order = new int[MAX_TASKS];
        int queued;
        int alive;
        int policy;
        int rule;
        int budget = FIRST_BUDGET;
        int nextSerial = 1;

        // These two call nothing, since they stand at the end of the longest chains of calls.

        boolean has(int task) {
            return task >= 0 && task < MAX_TASKS && (alive >> task & 1) != 0;
        }

        boolean isIn(int task, int asked) {
            return task >= 0 && task < MAX_TASKS && (alive >> task & 1) != 0 && state[task] == asked;
        }

        boolean holds(int task, int resource) {
            return has(task) && forest.has(resource) && inSet(held[task], resource);
        }

        /** Whether a task holds a resource or one above it. */
        boolean covers(int task, int resource) {
            return has(task) && forest.has(resource) && (held[task] & forest.above[resource]) != 0;
        }

        int heldBy(int task) {
            return has(task) ? Integer.bitCount(held[task]) : 0;
        }

        int freeNumber() {
            for (int t = 0; t < MAX_TASKS; t++) {
                if (!inSet(alive, t)) {
                    return t;
                }
            }
            return NONE;
        }

        int lowestRunning() {
            for (int t = 0; t < MAX_TASKS; t++) {
                if (isIn(t, RUNNING)) {
                    return t;
                }
            }
            return NONE;
        }

        int ownerOf(int resource) {
            for (int t = 0; t < MAX_TASKS; t++) {
                if (covers(t, resource)) {
                    return t;
                }
            }
            return NONE;
        }

        int holdersInWay(int task, int resource) {
            if (resource < 0 || resource >= MAX_RESOURCES) {
                return 0;
            }
            int near = forest.above[resource] | forest.below[resource];
            int holders = 0;
            for (int t = 0; t < MAX_TASKS; t++) {
                if (t != task && (held[t] & near) != 0) {
                    holders |= 1 << t;
                }
            }
            return holders;
        }

        int waitsFor(int task) {
            return isIn(task, WAITING) ? holdersInWay(task, wanted[task]) : 0;
        }

        int youngerThan(int task, int set) {
            if (!has(task)) {
                return 0;
            }
            int younger = 0;
            for (int t = 0; t < MAX_TASKS; t++) {
                if (inSet(set, t) && serial[t] > serial[task]) {
                    younger |= 1 << t;
                }
            }
            return younger;
        }

        int positionOf(int task) {
            for (int i = 0; i < queued && i < MAX_TASKS; i++) {
                if (order[i] == task) {
                    return i;
                }
            }
            return NONE;
        }

        int enroll(int newCost) {
            int fresh = freeNumber();
            if (fresh == NONE) {
                return NONE;
            }
            alive |= 1 << fresh;
            cost[fresh] = newCost;
            serial[fresh] = nextSerial;
            state[fresh] = RUNNING;
            held[fresh] = 0;
            wanted[fresh] = NONE;
            nextSerial++;
            return fresh;
        }

        int revive(int task) {
            if (!has(task)) {
                return NONE;
            }
            state[task] = RUNNING;
            return serial[task];
        }

        void grant(int task, int resource) {
            if (has(task) && forest.has(resource)) {
                held[task] |= 1 << resource;
                state[task] = RUNNING;
                wanted[task] = NONE;
            }
        }

        void queueUp(int task, int resource) {
            if (has(task) && queued < MAX_TASKS) {
                state[task] = WAITING;
                wanted[task] = resource;
                order[queued] = task;
                queued++;
            }
        }

        void leaveOrder(int task) {
            int kept = 0;
            for (int i = 0; i < queued && i < MAX_TASKS; i++) {
                if (order[i] != task) {
                    order[kept] = order[i];
                    kept++;
                }
            }
            queued = kept;
        }

        void letGo(int task, int resource) {
            if (holds(task, resource)) {
                held[task] &= ~(1 << resource);
            }
        }

        void strike(int task) {
            if (has(task)) {
                leaveOrder(task);
                held[task] = 0;
                wanted[task] = NONE;
                state[task] = ABORTED;
            }
        }

        void dismiss(int task) {
            if (has(task)) {
                held[task] = 0;
                alive &= ~(1 << task);
            }
        }

        /**
         * One pass is enough: a grant only adds holders, so that a task that was passed over has
         * still somebody to wait for. Returns how many resources were granted.
         */
        int settle() {
            int kept = 0;
            int granted = 0;
            for (int i = 0; i < queued && i < MAX_TASKS; i++) {
                int task = order[i];
                int resource = has(task) ? wanted[task] : NONE;
                if (holdersInWay(task, resource) == 0) {
                    grant(task, resource);
                    granted++;
                } else {
                    order[kept] = task;
                    kept++;
                }
            }
            queued = kept;
            return granted;
        }

        void copyFrom(Books other) {
            forest.copyFrom(other.forest);
            mail.copyFrom(other.mail);
            System.arraycopy(other.cost, 0, cost, 0, MAX_TASKS);
            System.arraycopy(other.serial, 0, serial, 0, MAX_TASKS);
            System.arraycopy(other.state, 0, state, 0, MAX_TASKS);
            System.arraycopy(other.held, 0, held, 0, MAX_TASKS);
            System.arraycopy(other.wanted, 0, wanted, 0, MAX_TASKS);
            System.arraycopy(other.order, 0, order, 0, MAX_TASKS);
            queued = other.queued;
            alive = other.alive;
            policy = other.policy;
            rule = other.rule;
            budget = other.budget;
            nextSerial = other.nextSerial;
        }
    }

    /** What undo() leaves alone: the counts and the deadlock that was found last. */
    private static final class Tally {
        final int[] counts = new int[COUNTS];
        int latestRing = NONE;
        int latestVictim = NONE;
        int latestInitiator = NONE;

        void add(int what, int number) {
            if (what >= 0 && what < COUNTS) {
                counts[what] += number;
            }
        }

        void noteDeadlock(int ring, int victim, int initiator) {
            latestRing = ring;
            latestVictim = victim;
            latestInitiator = initiator;
            add(FOUND, 1);
        }
    }

    /** Carries out what tasks ask for, and counts it. */
    private static final class Desk {
        final Books books;
        final Tally tally;
        final Waits waits;

        Desk(Books books, Tally tally, Waits waits) {
            this.books = books;
            this.tally = tally;
            this.waits = waits;
        }

        int outcomeOf(int task, int resource) {
            int inWay = books.holdersInWay(task, resource);
            if (inWay == 0 || books.covers(task, resource)) {
                return GRANT;
            }
            int younger = books.youngerThan(task, inWay);
            if (books.policy == WAIT_OR_DIE) {
                return younger == inWay ? WAIT : DIE;
            }
            if (books.policy == WOUND_OR_WAIT && younger != 0) {
                return younger == inWay ? WOUND_AND_GRANT : WOUND_AND_WAIT;
            }
            return WAIT;
        }

        int ask(int task, int resource) {
            if (books.covers(task, resource)) {
                return RUNNING;
            }
            int outcome = outcomeOf(task, resource);
            if (outcome == DIE) {
                strikeAll(1 << task);
            }
            if (outcome == WOUND_AND_GRANT || outcome == WOUND_AND_WAIT) {
                strikeAll(books.youngerThan(task, books.holdersInWay(task, resource)));
            }
            if (outcome == GRANT || outcome == WOUND_AND_GRANT) {
                books.grant(task, resource);
                tally.add(GRANTS, 1);
            }
            if (outcome == WAIT || outcome == WOUND_AND_WAIT) {
                books.queueUp(task, resource);
            }
            if (outcome != GRANT && outcome != WAIT) {
                tally.add(GRANTS, books.settle());
            }
            return books.has(task) ? books.state[task] : NONE;
        }

        int giveBack(int task, int resource) {
            books.letGo(task, resource);
            tally.add(GRANTS, books.settle());
            return books.heldBy(task);
        }

        int end(int task) {
            int had = books.heldBy(task);
            books.dismiss(task);
            tally.add(GRANTS, books.settle());
            return had;
        }

        int kill(int task) {
            int had = books.heldBy(task);
            strikeAll(1 << task);
            tally.add(GRANTS, books.settle());
            return had;
        }

        void strikeAll(int set) {
            for (int t = 0; t < MAX_TASKS; t++) {
                if (inSet(set, t)) {
                    books.strike(t);
                    tally.add(ABORTS, 1);
                }
            }
        }

        int startProbe(int task) {
            waits.read(books);
            sendToAll(waits.of(task), task, 1, books.budget - 1);
            return books.mail.size;
        }

        void sendToAll(int targets, long path, int length, int hops) {
            for (int t = 0; t < MAX_TASKS; t++) {
                if (inSet(targets, t)) {
                    tally.add(books.mail.send(path, length, t, hops) ? SENT : LOST, 1);
                }
            }
        }

        int deliverUpTo(int n) {
            waits.read(books);
            int delivered = 0;
            while (delivered < n && books.mail.size > 0) {
                deliverFirst();
                delivered++;
            }
            return delivered;
        }

        void deliverFirst() {
            int row = books.mail.rowOf(0);
            long path = books.mail.path[row];
            int length = books.mail.length[row];
            int target = books.mail.target[row];
            int hops = books.mail.hops[row];
            books.mail.dropFirst();
            int initiator = Mail.taskAt(path, 0);
            int members = Mail.members(path, length);
            if (!waits.follow(path, length, target)) {
                tally.add(STALE, 1);
            } else if (target == initiator) {
                breakDeadlock(members, initiator);
            } else if (books.isIn(target, WAITING) && !inSet(members, target)) {
                if (hops > 0) {
                    sendToAll(waits.of(target), Mail.extended(path, length, target), length + 1, hops - 1);
                } else {
                    tally.add(SPENT, 1);
                    tally.add(MISSED, inSet(waits.onRing, initiator) ? 1 : 0);
                }
            }
        }

        void breakDeadlock(int ring, int initiator) {
            int victim = victimOf(ring);
            tally.noteDeadlock(ring, victim, initiator);
            books.strike(victim);
            tally.add(ABORTS, 1);
            tally.add(GRANTS, books.settle());
            waits.read(books);
        }

        int victimOf(int ring) {
            int victim = NONE;
            for (int t = 0; t < MAX_TASKS; t++) {
                if (inSet(ring, t) && (victim == NONE || isRatherVictim(t, victim))) {
                    victim = t;
                }
            }
            return victim;
        }

        boolean isRatherVictim(int task, int other) {
            if (!books.has(task) || !books.has(other)) {
                return false;
            }
            int more = 0;
            if (books.rule == LEAST_COST) {
                more = books.cost[task] - books.cost[other];
            } else if (books.rule == FEWEST_HELD) {
                more = Integer.bitCount(books.held[task]) - Integer.bitCount(books.held[other]);
            }
            return more < 0 || more == 0 && books.serial[task] > books.serial[other];
        }
    }

    /** Who waits for whom, as it was when it was read from the books. */
    private static final class Waits {
        /** All tasks but the lowest of a ring. */
        static final int OTHERS = MAX_TASKS - 1;

        final int[] next = new int[MAX_TASKS];
        final int[] reach = new int[MAX_TASKS];
        int onRing;
        /** Made when rings are first counted: most objects never count any. */
        int[] ways;

        void read(Books books) {
            for (int t = 0; t < MAX_TASKS; t++) {
                next[t] = books.waitsFor(t);
                reach[t] = next[t];
            }
            for (int via = 0; via < MAX_TASKS; via++) {
                for (int t = 0; t < MAX_TASKS; t++) {
                    if (inSet(reach[t], via)) {
                        reach[t] |= reach[via];
                    }
                }
            }
            onRing = 0;
            for (int t = 0; t < MAX_TASKS; t++) {
                if (inSet(reach[t], t)) {
                    onRing |= 1 << t;
                }
            }
        }

        int of(int task) {
            return task >= 0 && task < MAX_TASKS ? next[task] : 0;
        }

        /** Whether each task of a path waits for the next one, and the last one for the target. */
        boolean follow(long path, int length, int target) {
            for (int i = 0; i < length; i++) {
                int after = i + 1 < length ? Mail.taskAt(path, i + 1) : target;
                if (!inSet(of(Mail.taskAt(path, i)), after)) {
                    return false;
                }
            }
            return true;
        }

        int leadingToRings() {
            int set = 0;
            for (int t = 0; t < MAX_TASKS; t++) {
                if ((reach[t] & onRing) != 0) {
                    set |= 1 << t;
                }
            }
            return set;
        }

        int shortestRing(int task) {
            int front = of(task);
            for (int steps = 1; steps <= MAX_TASKS; steps++) {
                if (inSet(front, task)) {
                    return steps;
                }
                int farther = 0;
                for (int t = 0; t < MAX_TASKS; t++) {
                    if (inSet(front, t)) {
                        farther |= next[t];
                    }
                }
                front = farther;
            }
            return NONE;
        }

        int countRings() {
            if (onRing == 0) {
                return 0;
            }
            int[] table = ways;
            if (table == null) {
                table = new int[(1 << OTHERS) * OTHERS];
                ways = table;
            }
            int rings = 0;
            for (int t = 0; t < MAX_TASKS; t++) {
                if (inSet(onRing, t)) {
                    rings += ringsFrom(t, table);
                }
            }
            return rings;
        }

        /**
         * Counts the rings whose lowest task is the given one, each by the one way round from there.
         * Paths are counted by their set and their last task, not walked one by one: ten tasks that
         * all wait for one another have more than a million rings.
         */
        int ringsFrom(int lowest, int[] table) {
            int others = OTHERS - lowest;
            int above = lowest + 1;
            for (int i = 0; i < (1 << others) * OTHERS; i++) {
                table[i] = 0;
            }
            extend(table, 0, next[lowest] >> above, 1);
            int rings = 0;
            for (int set = 1; set < 1 << others; set++) {
                for (int last = 0; last < others; last++) {
                    int paths = table[set * OTHERS + last];
                    if (paths != 0) {
                        int onward = next[above + last];
                        rings += inSet(onward, lowest) ? paths : 0;
                        extend(table, set, onward >> above, paths);
                    }
                }
            }
            return rings;
        }

        void extend(int[] table, int set, int onward, int paths) {
            for (int t = 0; t < OTHERS; t++) {
                if (inSet(onward & ~set, t)) {
                    table[(set | 1 << t) * OTHERS + t] += paths;
                }
            }
        }

        /** Costs are at least 1, so that a task on no cycle never belongs to a least set. */
        int leastVictims(int[] cost) {
            int best = onRing;
            int bestCost = costOf(onRing, cost);
            for (int set = 1; set < onRing; set++) {
                if ((set & ~onRing) == 0) {
                    int setCost = costOf(set, cost);
                    boolean better = setCost < bestCost
                            || setCost == bestCost && Integer.bitCount(set) < Integer.bitCount(best);
                    if (better && isRingFree(onRing & ~set)) {
                        best = set;
                        bestCost = setCost;
                    }
                }
            }
            return best;
        }

        int costOf(int set, int[] cost) {
            int sum = 0;
            for (int t = 0; t < MAX_TASKS && t < cost.length; t++) {
                if (inSet(set, t)) {
                    sum += cost[t];
                }
            }
            return sum;
        }

        /** Takes away tasks that wait for nobody who is left; what then stays has a ring in it. */
        boolean isRingFree(int set) {
            int left = set;
            for (int round = 0; round < MAX_TASKS && left != 0; round++) {
                int before = left;
                for (int t = 0; t < MAX_TASKS; t++) {
                    if (inSet(left, t) && (next[t] & left) == 0) {
                        left &= ~(1 << t);
                    }
                }
                if (left == before) {
                    return false;
                }
            }
            return left == 0;
        }
    }

    /** The records of undo(), the oldest first. Their rows are made once and used again. */
    private static final class History {
        final Books[] records = new Books[MAX_RECORDS];
        int size;

        void keep(Books books) {
            if (size >= MAX_RECORDS) {
                dropOldest();
            }
            Books record = records[size];
            if (record == null) {
                record = new Books();
                records[size] = record;
            }
            record.copyFrom(books);
            size++;
        }

        void dropOldest() {
            Books oldest = records[0];
            for (int i = 1; i < MAX_RECORDS; i++) {
                records[i - 1] = records[i];
            }
            records[MAX_RECORDS - 1] = oldest;
            size = MAX_RECORDS - 1;
        }

        void bringBack(Books books) {
            if (size > 0 && size <= MAX_RECORDS) {
                size--;
                Books record = records[size];
                if (record != null) {
                    books.copyFrom(record);
                }
            }
        }
    }

    /** The text buffer and its grammar. */
    private static final class Script {
        final char[] text = new char[MAX_TEXT];
        int length;

        int append(int c) {
            if (length < MAX_TEXT) {
                text[length] = (char) c;
                length++;
            }
            return length;
        }

        static int numbersAfter(int letter) {
            switch (letter) {
                case 'q':
                case 'l':
                    return 2;
                case 't':
                case 'f':
                case 'a':
                case 'b':
                case 'p':
                case 'd':
                    return 1;
                default:
                    return 0;
            }
        }

        int firstFault() {
            int numbersDue = 0;
            int digits = 0;
            for (int i = 0; i < length && i < MAX_TEXT; i++) {
                int c = text[i];
                if (numbersDue == 0) {
                    numbersDue = numbersAfter(c);
                    digits = 0;
                    if (numbersDue == 0) {
                        return i;
                    }
                } else if (isDigit(c)) {
                    digits++;
                    if (digits > MAX_DIGITS) {
                        return i;
                    }
                } else {
                    if (digits == 0 || c != (numbersDue > 1 ? ',' : ';')) {
                        return i;
                    }
                    numbersDue--;
                    digits = 0;
                }
            }
            return numbersDue == 0 ? NONE : length;
        }
    }
}

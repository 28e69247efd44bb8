import java.lang.reflect.InvocationTargetException;
import java.lang.reflect.Method;
import java.lang.reflect.Modifier;
import java.util.Arrays;
import java.util.Comparator;
import java.util.List;
import java.util.Random;

/** What frames the promises: how long an object is used, that it stands for itself, and what is not promised. */
final class LifeEdges {
    private static final String WHAT_IT_IS = "What it is";
    private static final String NOT_PROMISED = "Not promised";
    private static final int LIFE = 512;
    private static final int[] NUMBERS = {
        Integer.MIN_VALUE, -33, -32, -2, -1, 10, 15, 16, 31, 32, 33, 40, 99, 100, 120, 127, 256, Integer.MAX_VALUE
    };

    private LifeEdges() {
    }

    static void all() {
        serialNumbers();
        grants();
        aborts();
        lostMessages();
        sentMessages();
        records();
        texts();
        objectsApart();
        neverByItself();
    }

    // ---- the 512th call is answered as the first one is

    private static void serialNumbers() {
        Doc.section(WHAT_IT_IS, "An object is used for at most 512 calls after it has been made;");
        ProbeLocks x = new ProbeLocks();
        for (int i = 1; i < LIFE / 2; i++) {
            Check.due("the lowest free number", x.create(1), 0);
            Check.due("it held nothing", x.finish(0), 0);
        }
        x.create(1);
        Check.due("the serial number at the end of a life", x.task(0, 2), LIFE / 2);
    }

    private static void grants() {
        ProbeLocks x = Make.of("r-1 t1 t2");
        int calls = 3;
        for (; calls + 5 < LIFE; calls += 4) {
            Check.due("granted", Make.on(x, "q0,0"), 0);
            Check.due("waits", Make.on(x, "q1,0"), 1);
            Check.due("handed on", Make.on(x, "l0,0"), 0);
            Check.due("released", Make.on(x, "l1,0"), 0);
        }
        Check.due("granted in a life", x.told(7), (calls - 3) / 2);
    }

    private static void aborts() {
        ProbeLocks x = Make.of("t1");
        for (int i = 0; i < LIFE / 2 - 1; i++) {
            Check.due("abort", x.abort(0), 0);
            Check.due("restart", x.restart(0), 1);
        }
        Check.due("aborted in a life", x.told(6), LIFE / 2 - 1);
    }

    private static void lostMessages() {
        ProbeLocks x = Make.crowd(10);
        int probes = LIFE - 41 - 2;
        for (int i = 0; i < probes; i++) {
            Check.due("messages after a probe", x.probe(i % 10), Math.min(40, 9 * (i + 1)));
        }
        Check.due("sent in a life", x.told(0), 40);
        Check.due("lost in a life", x.told(1), 9 * probes - 40);
    }

    /** The places of the 40 messages are used again and again, and the order in which they were sent stays. */
    private static void sentMessages() {
        ProbeLocks x = Make.of("r-1 t1 t1 q0,0 q1,0 p1 p1 p1 p1 p1 p1 p1");
        int calls = 12;
        int probes = 7;
        for (; calls + 4 < LIFE; calls += 4) {
            x.setBudget(1 + probes % 9);
            x.probe(1);
            Check.due("the last one sent is the last one", x.message(7, 2), probes % 9);
            Check.due("delivered", x.deliver(1), 1);
            probes++;
        }
        Check.due("sent in a life", x.told(0), probes);
        Check.due("seven are left", x.messages(), 7);
    }

    private static void records() {
        ProbeLocks x = new ProbeLocks();
        for (int i = 0; i < LIFE - 6; i++) {
            x.setBudget(1 + i % 9);
        }
        for (int left = 4; left >= 0; left--) {
            Check.due("records left", x.undo(), left);
        }
        Check.due("five changes are taken back", x.setBudget(1), 1 + (LIFE - 6 - 5 - 1) % 9);
    }

    private static void texts() {
        ProbeLocks x = new ProbeLocks();
        for (int life = 0; life < 4; life++) {
            for (int i = 1; i <= 120; i++) {
                Check.due("the length", x.type("t1;".charAt((i - 1) % 3)), i);
            }
            Check.due("a script", x.fault(), ProbeLocks.NONE);
            Check.due("tasks are made as long as there is room", x.run(), life == 0 ? 10 : 0);
            Check.due("the text is emptied", x.clearText(), 120);
        }
    }

    // ---- what an object does is its own

    private static void objectsApart() {
        Doc.section(WHAT_IT_IS, "A lock manager for resources that form trees, with tasks that wait for one another: "
                + "three policies, probes that are sent from task to task with a limited number of hops to find "
                + "deadlocks, victims that are aborted, counts of what was found and missed, exact analysis of cycles "
                + "and least sets of victims, scripts, and undo.");
        Doc.section(NOT_PROMISED, "Nothing is promised beyond the answers and state changes described above");
        String alone = View.onward(Make.rich());
        ProbeLocks x = Make.rich();
        ProbeLocks full = Make.full();
        View.onward(Make.rich());
        Check.due("cycles of another one", full.cycles() > 0, true);
        full.deliver(99);
        full.run();
        ProbeLocks y = Make.rich();
        Check.due("made before others", View.onward(x), alone);
        Check.due("made after others", View.onward(y), alone);
    }

    // ---- what is free is free, but the machine never throws

    private static void neverByItself() {
        Doc.section(WHAT_IT_IS, "what later calls answer is free.");
        Doc.section(NOT_PROMISED,
                "How the state is held inside the object is free, as are the speed of each call, the text of toString "
                + "and the behaviour of equals and hashCode.",
                "Use of one object from several threads at once is not promised to be safe.",
                "and nothing about an object after its 512th call.");
        List<Method> face = Arrays.stream(ProbeLocks.class.getDeclaredMethods())
                .filter(m -> Modifier.isPublic(m.getModifiers()))
                .sorted(Comparator.comparing(Method::getName)).toList();
        for (int seed = 0; seed < 20; seed++) {
            Random random = new Random(seed);
            ProbeLocks x = seed % 2 == 0 ? new ProbeLocks() : Make.full();
            for (int i = 0; i < 10 * LIFE; i++) {
                Method call = face.get(random.nextInt(face.size()));
                Object[] numbers = new Object[call.getParameterCount()];
                for (int n = 0; n < numbers.length; n++) {
                    numbers[n] = random.nextInt(6) == 0 ? NUMBERS[random.nextInt(NUMBERS.length)] : random.nextInt(10);
                }
                Check.due(call + " with " + Arrays.toString(numbers), isAnswered(x, call, numbers), true);
            }
        }
    }

    /** Whether the call ends normally, or with one of the very exceptions that its line of the face names. */
    private static boolean isAnswered(ProbeLocks x, Method call, Object[] numbers) {
        try {
            call.invoke(x, numbers);
            return true;
        } catch (InvocationTargetException e) {
            return List.of(call.getExceptionTypes()).contains(e.getCause().getClass());
        } catch (IllegalAccessException e) {
            return false;
        }
    }
}

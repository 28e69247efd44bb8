/** Promises 1 to 5: a new object, addResource, resources, resource, overlap. */
public final class ResourcesTest {
    public static void main(String[] args) {
        newObject();
        addResource();
        refusedResource();
        properties();
        holders();
        overlap();
        Check.done("ResourcesTest");
    }

    private static void newObject() {
        ProbeLocks x = new ProbeLocks();
        Check.due("1: NONE", ProbeLocks.NONE, -1);
        Check.due("1: resources of a new object", x.resources(), 0);
        Check.due("1: tasks of a new object", x.tasks(), 0);
        Check.due("1: messages of a new object", x.messages(), 0);
        Check.due("1: waiting of a new object", x.waiting(0), -1);
        Check.due("1: text of a new object", x.clearText(), 0);
        Check.due("1: a new object's text is a script", x.fault(), -1);
        for (int what = 0; what < 8; what++) {
            Check.due("1: told of a new object", x.told(what), 0);
        }
        Check.badState("1: no records", () -> x.undo());
        Check.due("1: policy at first", x.setPolicy(1), 0);
        Check.due("1: rule at first", x.setRule(1), 0);
        Check.due("1: budget at first", x.setBudget(1), 4);
        Check.due("1: another object is new", new ProbeLocks().setPolicy(1), 0);
    }

    private static void addResource() {
        ProbeLocks x = new ProbeLocks();
        for (int i = 0; i < 16; i++) {
            Check.due("3: resources", x.resources(), i);
            Check.due("2: addResource", x.addResource(i - 1), i);
        }
        Check.due("3: resources", x.resources(), 16);
        Check.due("2: the deepest chain", x.resource(15, 1), 15);
        Check.due("2: all below the root", x.resource(0, 2), 0xFFFF);
        x.undo();
        Check.due("2: undone", x.resources(), 15);
        Check.due("2: undone below the root", x.resource(0, 2), 0x7FFF);
        Check.due("2: added again, elsewhere", x.addResource(ProbeLocks.NONE), 15);
        Check.due("2: it has no ancestors", x.resource(15, 1), 0);
        Check.due("2: and the root does not have it", x.resource(0, 2), 0x7FFF);
    }

    private static void refusedResource() {
        ProbeLocks x = new ProbeLocks();
        Check.noThing("2: no resource yet", () -> x.addResource(0));
        Check.noThing("2: below NONE", () -> x.addResource(-2));
        Check.noThing("2: the least number", () -> x.addResource(Integer.MIN_VALUE));
        for (int i = 0; i < 16; i++) {
            x.addResource(ProbeLocks.NONE);
        }
        long before = x.checksum();
        Check.badState("2: 16 resources", () -> x.addResource(0));
        Check.badState("2: 16 resources, no parent", () -> x.addResource(ProbeLocks.NONE));
        Check.noThing("2: no such parent comes first", () -> x.addResource(16));
        Check.due("2: a refused call changes nothing", x.checksum(), before);
    }

    /** 0 over 1 and 2, 1 over 3, and 4 over 5. */
    private static ProbeLocks twoTrees() {
        ProbeLocks x = new ProbeLocks();
        x.addResource(ProbeLocks.NONE);
        x.addResource(0);
        x.addResource(0);
        x.addResource(1);
        x.addResource(ProbeLocks.NONE);
        x.addResource(4);
        return x;
    }

    private static void properties() {
        ProbeLocks x = twoTrees();
        int[] parents = {-1, 0, 0, 1, -1, 4};
        int[] ancestors = {0, 1, 1, 2, 0, 1};
        int[] below = {15, 10, 4, 8, 48, 32};
        for (int r = 0; r < 6; r++) {
            Check.due("4: parent of " + r, x.resource(r, 0), parents[r]);
            Check.due("4: ancestors of " + r, x.resource(r, 1), ancestors[r]);
            Check.due("4: below " + r, x.resource(r, 2), below[r]);
            Check.due("4: held by nobody " + r, x.resource(r, 3), -1);
            Check.due("4: nobody near " + r, x.resource(r, 4), 0);
        }
        Check.noThing("4: no such resource", () -> x.resource(6, 0));
        Check.noThing("4: a negative one", () -> x.resource(-1, 0));
        Check.noThing("4: no such resource comes first", () -> x.resource(6, 5));
        Check.badValue("4: what is 5", () -> x.resource(0, 5));
        Check.badValue("4: what is -1", () -> x.resource(0, -1));
    }

    private static void holders() {
        ProbeLocks x = twoTrees();
        for (int t = 0; t < 3; t++) {
            x.create(1);
        }
        x.request(2, 1);
        x.request(1, 2);
        x.request(0, 5);
        int[] owner = {-1, 2, 1, 2, -1, 0};
        int[] near = {6, 4, 2, 4, 1, 1};
        for (int r = 0; r < 6; r++) {
            Check.due("4: who holds " + r + " or above", x.resource(r, 3), owner[r]);
            Check.due("4: who holds something near " + r, x.resource(r, 4), near[r]);
        }
        x.addResource(3);
        Check.due("4: a new resource lies below a held one", x.resource(6, 3), 2);
        x.abort(2);
        Check.due("4: nobody any more", x.resource(6, 3), -1);
        Check.due("4: nobody near any more", x.resource(6, 4), 0);
    }

    private static void overlap() {
        ProbeLocks x = twoTrees();
        String[] rows = {"111100", "110100", "101000", "110100", "000011", "000011"};
        for (int a = 0; a < 6; a++) {
            for (int b = 0; b < 6; b++) {
                Check.due("5: overlap " + a + ", " + b, x.overlap(a, b), rows[a].charAt(b) == '1');
            }
        }
        Check.noThing("5: no such first", () -> x.overlap(6, 0) ? 1 : 0);
        Check.noThing("5: no such second", () -> x.overlap(0, 6) ? 1 : 0);
        Check.noThing("5: a negative second", () -> x.overlap(0, -1) ? 1 : 0);
        Check.noThing("5: a negative first", () -> x.overlap(-1, 0) ? 1 : 0);
    }
}

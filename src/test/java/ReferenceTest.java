import java.util.Random;

/**
 * Runs of calls drawn with a fixed seed, on the class and on ReferenceChart: every answer must be the same, for as many
 * calls as the document lets an object be used for.
 */
public final class ReferenceTest {
    private static final Check CHECK = new Check();
    private static final int CHARTS = 40000;
    private static final int CALLS = 512;
    private static final int[] ODD = {-2, -1, 0, 16, 21, 99, 100, 116, 200, 216, Integer.MIN_VALUE, Integer.MAX_VALUE};

    private final Random random;
    private final MicrostepChart x = new MicrostepChart();
    private final ReferenceChart r = new ReferenceChart();
    private final String name;
    private int calls = 0;
    private int made = 0;
    private int arcs = 0;

    private ReferenceTest(int seed) {
        random = new Random(seed);
        name = "chart " + seed + ": ";
    }

    public static void main(String[] args) {
        int[] outcomes = new int[5];
        for (int seed = 0; seed < CHARTS; seed++) {
            ReferenceTest test = new ReferenceTest(seed);
            test.run(outcomes);
            CHECK.due(test.name + "calls", test.calls <= CALLS, true);
        }
        for (int outcome = 0; outcome < 5; outcome++) {
            CHECK.due("outcome " + outcome + " came often, " + outcomes[outcome], outcomes[outcome] > 100, true);
        }
        CHECK.end("ReferenceTest");
    }

    private int same(String call, int got, int want) {
        calls++;
        CHECK.due(name + call, got, want);
        return want;
    }

    private void same(String call, boolean got, boolean want) {
        same(call, got ? 1 : 0, want ? 1 : 0);
    }

    private boolean roomFor(int more) {
        return calls + more <= CALLS;
    }

    private void run(int[] outcomes) {
        int states = 3 + random.nextInt(14);
        for (int i = 0; i < states; i++) {
            addState();
        }
        makeWhole();
        int initials = random.nextInt(4);
        for (int i = 0; i < initials; i++) {
            int child = number(made + 1);
            same("initial " + child, x.initial(child), r.initial(child));
        }
        int transitions = 2 + random.nextInt(21);
        for (int i = 0; i < transitions; i++) {
            addTransition();
        }
        int actions = random.nextInt(random.nextBoolean() ? 12 : 36);
        for (int i = 0; i < actions; i++) {
            addAction();
        }
        int rounds = 1 + random.nextInt(2);
        for (int i = 0; i < rounds; i++) {
            runOnce(outcomes);
        }
    }

    private void runOnce(int[] outcomes) {
        if (!roomFor(30)) {
            return;
        }
        same("begin", x.begin(), r.begin());
        compare();
        int steps = 10 + random.nextInt(40);
        for (int i = 0; i < steps && roomFor(30); i++) {
            drive();
            compare();
        }
        outcomes[r.outcome()]++;
        if (roomFor(30)) {
            reset();
            compare();
        }
    }

    private void reset() {
        calls++;
        x.reset();
        r.reset();
    }

    private void drive() {
        int choice = random.nextInt(10);
        if (choice < 4) {
            int event = number(6);
            same("post " + event, x.post(event), r.post(event));
        } else if (choice < 8) {
            same("step", x.step(), r.step());
        } else if (choice == 8) {
            int n = number(12);
            same("tick " + n, x.tick(n), r.tick(n));
        } else if (r.outcome() != 0) {
            same("state", x.state(0, 1), r.state(0, 1));
            same("begin", x.begin(), r.begin());
        }
    }

    /** A number 0 .. bound - 1, and now and then one that is odd. */
    private int number(int bound) {
        return random.nextInt(25) == 0 ? ODD[random.nextInt(ODD.length)] : random.nextInt(bound);
    }

    private void addState() {
        int parent = random.nextInt(3) == 0 ? 0 : number(made + 1);
        int[] kinds = {1, 1, 1, 1, 2, 2, 3, 4, 5, number(7)};
        int kind = kinds[random.nextInt(kinds.length)];
        made = Math.max(made, same("state " + parent + " " + kind, x.state(parent, kind), r.state(parent, kind)));
    }

    /** Gives children to those that must have some, in most charts. */
    private void makeWhole() {
        if (random.nextInt(20) == 0) {
            return;
        }
        for (int parent = 0; parent <= made; parent++) {
            same("begin", x.begin(), r.begin());
            boolean whole = r.outcome() != 0;
            reset();
            if (whole) {
                return;
            }
            made = Math.max(made, same("state " + parent, x.state(parent, 1), r.state(parent, 1)));
        }
    }

    private void addTransition() {
        int source = number(made + 1);
        int event = random.nextInt(5) == 0 ? 100 + number(made + 1) : random.nextInt(10) == 0 ? 0 : number(6);
        int target = random.nextInt(6) == 0 ? -1 : number(made + 1);
        int t = same("transition " + source + " " + event + " " + target, x.transition(source, event, target),
                r.transition(source, event, target));
        arcs = Math.max(arcs, t + 1);
        if (random.nextInt(3) == 0) {
            int of = number(arcs + 1);
            int op = number(4);
            int what = op == 3 && random.nextInt(4) > 0 ? 0 : number(4);
            int value = op == 3 ? number(made + 1) : number(8) - 2;
            same("guard " + of, x.guard(of, what, op, value), r.guard(of, what, op, value));
        }
    }

    private void addAction() {
        int place = random.nextInt(3);
        int owner = place == 0 ? number(arcs + 1) : 100 * place + number(made + 1);
        int op = number(4);
        int a = op == 2 || op == 3 ? number(6) : number(4);
        int b = op == 2 ? 0 : op == 3 ? number(9) : number(7) - 2;
        same("action " + owner, x.action(owner, op, a, b), r.action(owner, op, a, b));
    }

    /** Not all that can be asked, for that would leave too few of the calls for the run itself. */
    private void compare() {
        same("outcome", x.outcome(), r.outcome());
        same("active", x.active(), r.active());
        for (int i = 0; i < 3; i++) {
            int history = number(made + 1);
            same("remembered " + history, x.remembered(history), r.remembered(history));
            int v = number(4);
            same("variable " + v, x.variable(v), r.variable(v));
            same("waiting " + i, x.waiting(i), r.waiting(i));
        }
        int odd = number(3);
        same("waiting " + odd, x.waiting(odd), r.waiting(odd));
        int listed = 0;
        for (int i = random.nextInt(25) == 0 ? -1 : 0; (i <= 0 || listed != -1) && roomFor(1); i++) {
            listed = same("listed " + i, x.listed(i), r.listed(i));
        }
    }
}

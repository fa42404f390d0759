import java.util.Random;

/** Runs of calls drawn with a fixed seed, on the class and on ReferenceChart: every answer must be the same. */
public final class ReferenceTest {
    private static final Check CHECK = new Check();
    private static final int CHARTS = 6000;
    private static final int[] ODD = {-2, -1, 0, 16, 21, 99, 100, 116, 200, 216, Integer.MIN_VALUE, Integer.MAX_VALUE};

    private final Random random;
    private final MicrostepChart x = new MicrostepChart();
    private final ReferenceChart r = new ReferenceChart();
    private final String name;
    private int made = 0;
    private int arcs = 0;

    private ReferenceTest(int seed) {
        random = new Random(seed);
        name = "chart " + seed + ": ";
    }

    public static void main(String[] args) {
        int[] outcomes = new int[5];
        for (int seed = 0; seed < CHARTS; seed++) {
            new ReferenceTest(seed).run(outcomes);
        }
        for (int outcome = 0; outcome < 5; outcome++) {
            CHECK.due("outcome " + outcome + " came often, " + outcomes[outcome], outcomes[outcome] > 50, true);
        }
        CHECK.end("ReferenceTest");
    }

    private void run(int[] outcomes) {
        int states = 3 + random.nextInt(14);
        for (int i = 0; i < states; i++) {
            addState();
        }
        makeWhole();
        int initials = random.nextInt(4);
        for (int i = 0; i < initials; i++) {
            int child = number(made + 1);
            CHECK.due(name + "initial " + child, x.initial(child), r.initial(child));
        }
        int transitions = 2 + random.nextInt(21);
        for (int i = 0; i < transitions; i++) {
            addTransition();
        }
        int actions = random.nextInt(random.nextBoolean() ? 12 : 36);
        for (int i = 0; i < actions; i++) {
            addAction();
        }
        int rounds = 1 + random.nextInt(2);
        for (int i = 0; i < rounds; i++) {
            runOnce(outcomes);
        }
    }

    private void runOnce(int[] outcomes) {
        CHECK.due(name + "begin", x.begin(), r.begin());
        compare();
        int calls = 10 + random.nextInt(40);
        for (int i = 0; i < calls; i++) {
            int choice = random.nextInt(10);
            if (choice < 4) {
                int event = number(6);
                CHECK.due(name + "post " + event, x.post(event), r.post(event));
            } else if (choice < 8) {
                CHECK.due(name + "step", x.step(), r.step());
            } else if (choice == 8) {
                int n = number(12);
                CHECK.due(name + "tick " + n, x.tick(n), r.tick(n));
            } else {
                refusedWhileRunning();
            }
            compare();
        }
        outcomes[x.outcome()]++;
        x.reset();
        r.reset();
        compare();
    }

    private void refusedWhileRunning() {
        if (r.outcome() == 0) {
            return;
        }
        CHECK.due(name + "state", x.state(0, 1), r.state(0, 1));
        CHECK.due(name + "begin", x.begin(), r.begin());
    }

    /** A number 0 .. bound - 1, and now and then one that is odd. */
    private int number(int bound) {
        return random.nextInt(25) == 0 ? ODD[random.nextInt(ODD.length)] : random.nextInt(bound);
    }

    private void addState() {
        int parent = random.nextInt(3) == 0 ? 0 : number(made + 1);
        int[] kinds = {1, 1, 1, 1, 2, 2, 3, 4, 5, number(7)};
        int kind = kinds[random.nextInt(kinds.length)];
        int answer = x.state(parent, kind);
        CHECK.due(name + "state " + parent + " " + kind, answer, r.state(parent, kind));
        made = Math.max(made, answer);
    }

    /** Gives children to those that must have some, in most charts. */
    private void makeWhole() {
        if (random.nextInt(20) == 0) {
            return;
        }
        for (int parent = 0; parent <= made; parent++) {
            CHECK.due(name + "begin", x.begin(), r.begin());
            boolean whole = x.outcome() != 0;
            x.reset();
            r.reset();
            if (whole) {
                return;
            }
            int answer = x.state(parent, 1);
            CHECK.due(name + "state " + parent, answer, r.state(parent, 1));
            made = Math.max(made, answer);
        }
    }

    private void addTransition() {
        int source = number(made + 1);
        int event = random.nextInt(5) == 0 ? 100 + number(made + 1) : random.nextInt(10) == 0 ? 0 : number(6);
        int target = random.nextInt(6) == 0 ? -1 : number(made + 1);
        int t = x.transition(source, event, target);
        CHECK.due(name + "transition " + source + " " + event + " " + target, t, r.transition(source, event, target));
        arcs = Math.max(arcs, t + 1);
        if (random.nextInt(3) == 0) {
            int of = number(arcs + 1);
            int op = number(4);
            int what = op == 3 && random.nextInt(4) > 0 ? 0 : number(4);
            int value = op == 3 ? number(made + 1) : number(8) - 2;
            CHECK.due(name + "guard " + of, x.guard(of, what, op, value), r.guard(of, what, op, value));
        }
    }

    private void addAction() {
        int place = random.nextInt(3);
        int owner = place == 0 ? number(arcs + 1) : 100 * place + number(made + 1);
        int op = number(4);
        int a = op == 2 || op == 3 ? number(6) : number(4);
        int b = op == 2 ? 0 : op == 3 ? number(9) : number(7) - 2;
        CHECK.due(name + "action " + owner, x.action(owner, op, a, b), r.action(owner, op, a, b));
    }

    private void compare() {
        CHECK.due(name + "outcome", x.outcome(), r.outcome());
        CHECK.due(name + "active", x.active(), r.active());
        for (int i = -1; i <= 16; i++) {
            CHECK.due(name + "remembered " + i, x.remembered(i), r.remembered(i));
        }
        for (int i = -1; i <= 4; i++) {
            CHECK.due(name + "variable " + i, x.variable(i), r.variable(i));
            CHECK.due(name + "waiting " + i, x.waiting(i), r.waiting(i));
        }
        for (int i = -1; i <= 201; i++) {
            int want = r.listed(i);
            CHECK.due(name + "listed " + i, x.listed(i), want);
            if (i >= 0 && want == -1) {
                return;
            }
        }
    }
}

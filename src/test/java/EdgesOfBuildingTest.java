/** Promises 1 to 6 at their edges: the least and the greatest that is allowed works, what is beyond is refused. */
public final class EdgesOfBuildingTest {
    private static final int MIN = Integer.MIN_VALUE;
    private static final int MAX = Integer.MAX_VALUE;
    private static final int BAD = MicrostepChart.BAD;
    private static final int FULL = MicrostepChart.FULL;
    private static final Check CHECK = new Check();

    public static void main(String[] args) {
        newObjectHasStateZeroAlone();
        kindsLeastAndGreatest();
        parentsLeastAndGreatest();
        fifteenStatesOfEachKind();
        fifteenLevels();
        initialLeastAndGreatest();
        initialOfStateZero();
        firstChildUnlessNamed();
        sourcesLeastAndGreatest();
        eventsLeastAndGreatest();
        doneOfTheGreatestState();
        targetsLeastAndGreatest();
        twentyTransitions();
        guardOfTheLeastAndGreatestTransition();
        guardVariablesLeastAndGreatest();
        guardValuesLeastAndGreatest();
        guardStatesLeastAndGreatest();
        guardInPlaceOfTheOneItHad();
        ownersLeastAndGreatest();
        ownersThatAreNot();
        variablesOfActions();
        eventsOfActions();
        delaysLeastAndGreatest();
        thirtyTwoActionsInAll();
        CHECK.end("EdgesOfBuildingTest");
    }

    private static int send(MicrostepChart x, int event) {
        CHECK.due("post " + event, x.post(event), true);
        return x.step();
    }

    private static MicrostepChart plainStates(int count) {
        MicrostepChart x = new MicrostepChart();
        for (int s = 1; s <= count; s++) {
            CHECK.due("2: state " + s, x.state(0, 1), s);
        }
        return x;
    }

    private static void newObjectHasStateZeroAlone() {
        CHECK.due("1: 0 may be a parent", new MicrostepChart().state(0, 1), 1);
        CHECK.due("1: 1 may not", new MicrostepChart().state(1, 1), BAD);
        CHECK.due("1: 0 is no source", new MicrostepChart().transition(0, 1, -1), BAD);
        CHECK.due("1: 0 has no child", new MicrostepChart().begin(), MicrostepChart.ILL);
        CHECK.due("1: building", new MicrostepChart().outcome(), 0);
    }

    private static void dueKinds(String name, int parent, int... wants) {
        for (int kind = 0; kind <= 6; kind++) {
            MicrostepChart x = new MicrostepChart();
            x.state(0, 1);
            x.state(0, 2);
            CHECK.due("2: kind " + kind + " in " + name, x.state(parent, kind), wants[kind]);
        }
    }

    private static void kindsLeastAndGreatest() {
        dueKinds("state 0", 0, BAD, 3, 3, 3, BAD, BAD, BAD);
        dueKinds("a plain state", 1, BAD, 3, 3, 3, 3, 3, BAD);
        dueKinds("a parallel state", 2, BAD, 3, 3, BAD, 3, 3, BAD);
        for (int kind : new int[] {MIN, MAX}) {
            CHECK.due("2: kind " + kind, new MicrostepChart().state(0, kind), BAD);
        }
    }

    private static void parentsLeastAndGreatest() {
        for (int parent : new int[] {MIN, -1, 4, 5, MAX}) {
            CHECK.due("2: parent " + parent, plainStates(3).state(parent, 1), BAD);
        }
        for (int parent = 0; parent <= 3; parent++) {
            CHECK.due("2: parent " + parent, plainStates(3).state(parent, 1), 4);
        }
        CHECK.due("2: the greatest parent that can have a child", plainStates(14).state(14, 1), 15);
        CHECK.due("2: its own number", plainStates(14).state(15, 1), BAD);
        MicrostepChart x = new MicrostepChart();
        int[] kinds = {2, 3, 4, 5};
        for (int i = 0; i < kinds.length; i++) {
            x.state(i < 2 ? 0 : 1, kinds[i]);
        }
        CHECK.due("2: parent parallel", x.state(1, 1), 5);
        CHECK.due("2: parent final", x.state(2, 1), BAD);
        CHECK.due("2: parent shallow", x.state(3, 1), BAD);
        CHECK.due("2: parent deep", x.state(4, 1), BAD);
    }

    private static void fifteenStatesOfEachKind() {
        for (int last = 1; last <= 5; last++) {
            MicrostepChart x = plainStates(14);
            CHECK.due("2: the 15th, kind " + last, x.state(1, last), 15);
            for (int kind = 1; kind <= 5; kind++) {
                CHECK.due("2: the 16th, kind " + kind, x.state(2, kind), FULL);
                CHECK.due("2: not in a parent beyond", x.state(16, kind), BAD);
            }
            CHECK.due("2: a kind below, though full", x.state(2, 0), BAD);
            CHECK.due("2: a kind beyond, though full", x.state(2, 6), BAD);
        }
    }

    private static void fifteenLevels() {
        MicrostepChart x = new MicrostepChart();
        for (int s = 1; s <= 15; s++) {
            CHECK.due("2: level " + s, x.state(s - 1, 1), s);
        }
        CHECK.due("2: a 16th level", x.state(15, 1), FULL);
        CHECK.due("4: from the deepest to the highest", x.transition(15, 1, 1), 0);
        x.begin();
        CHECK.due("all are active", x.active(), 0xFFFE);
        CHECK.due("all are left and entered", send(x, 1), 1);
        CHECK.due("deepest left first", x.listed(0), 2015);
        CHECK.due("highest left last", x.listed(14), 2001);
        CHECK.due("the transition", x.listed(15), 3000);
        CHECK.due("highest entered first", x.listed(16), 1001);
        CHECK.due("deepest entered last", x.listed(30), 1015);
        CHECK.due("no more", x.listed(31), -1);
    }

    private static void initialLeastAndGreatest() {
        MicrostepChart x = plainStates(15);
        for (int child : new int[] {MIN, -1, 0, 16, 17, MAX}) {
            CHECK.due("3: child " + child, x.initial(child), false);
        }
        x.begin();
        CHECK.due("3: the first", x.active(), 2);
        x.reset();
        CHECK.due("3: the greatest", x.initial(15), true);
        x.begin();
        CHECK.due("3: the greatest is entered", x.active(), 1 << 15);
        x.reset();
        CHECK.due("3: the least", x.initial(1), true);
        x.begin();
        CHECK.due("3: the least is entered", x.active(), 2);
    }

    private static void initialOfStateZero() {
        MicrostepChart x = plainStates(2);
        CHECK.due("3: state 0 is plain", x.initial(2), true);
        CHECK.due("3: not made yet", x.initial(3), false);
        x.state(0, 3);
        CHECK.due("3: a final one", x.initial(3), true);
        x.begin();
        CHECK.due("3: finished at once", x.outcome(), 2);
    }

    private static void firstChildUnlessNamed() {
        MicrostepChart x = new MicrostepChart();
        x.state(0, 1);
        x.state(1, 5);
        x.state(1, 4);
        x.state(1, 1);
        x.state(1, 1);
        x.begin();
        CHECK.due("3: histories before it are no children", x.active(), 2 + 16);
        x.reset();
        CHECK.due("3: a deep history", x.initial(2), false);
        CHECK.due("3: a shallow history", x.initial(3), false);
        CHECK.due("3: another one", x.initial(5), true);
        CHECK.due("2: a later child", x.state(1, 1), 6);
        x.begin();
        CHECK.due("3: the one that was named, though others came", x.active(), 2 + 32);
    }

    private static void sourcesLeastAndGreatest() {
        MicrostepChart x = plainStates(15);
        for (int source : new int[] {MIN, -1, 0, 16, 17, MAX}) {
            CHECK.due("4: source " + source, x.transition(source, 1, -1), BAD);
        }
        CHECK.due("4: the least source", x.transition(1, 1, 15), 0);
        CHECK.due("4: the greatest source", x.transition(15, 1, 1), 1);
        x.begin();
        send(x, 1);
        CHECK.records("4: from the least to the greatest", x, 2001, 3000, 1015);
        send(x, 1);
        CHECK.records("4: from the greatest to the least", x, 2015, 3001, 1001);
    }

    private static void eventsLeastAndGreatest() {
        MicrostepChart x = plainStates(1);
        for (int event : new int[] {MIN, MIN + 101, -2, -1, 21, 22, 99, 100, 102, 115, 116, 201, MAX}) {
            CHECK.due("4: event " + event, x.transition(1, event, -1), BAD);
        }
        CHECK.due("4: event 1", x.transition(1, 1, -1), 0);
        CHECK.due("4: event 20", x.transition(1, 20, -1), 1);
        CHECK.due("4: no event", x.transition(1, 0, -1), 2);
        CHECK.due("4: done", x.transition(1, 101, -1), 3);
        x.guard(2, 0, 0, 0);
        x.begin();
        send(x, 1);
        CHECK.records("4: waits for 1", x, 3000);
        send(x, 20);
        CHECK.records("4: waits for 20", x, 3001);
        CHECK.due("4: nothing waits for 2", send(x, 2), 0);
        CHECK.due("4: nothing waits for 19", send(x, 19), 0);
    }

    private static void doneOfTheGreatestState() {
        MicrostepChart x = new MicrostepChart();
        x.state(0, 1);
        for (int s = 2; s <= 13; s++) {
            x.state(0, 1);
        }
        x.state(13, 3);
        CHECK.due("4: 115 is not made yet", x.transition(1, 115, -1), BAD);
        CHECK.due("4: 114, a final state", x.transition(1, 114, -1), 0);
        CHECK.due("4: 113", x.transition(13, 113, 1), 1);
        CHECK.due("2: the 15th", x.state(13, 4), 15);
        CHECK.due("4: 115 is a history", x.transition(1, 115, -1), BAD);
        x.initial(13);
        CHECK.due("7: begin", x.begin(), 1);
        CHECK.records("4: 113 is done", x, 1013, 1014, 2014, 2013, 3001, 1001);
        MicrostepChart y = plainStates(15);
        CHECK.due("4: 115 is a state", y.transition(1, 115, -1), 0);
        CHECK.due("4: 116 is none", y.transition(1, 116, -1), BAD);
    }

    private static void targetsLeastAndGreatest() {
        MicrostepChart x = plainStates(14);
        CHECK.due("4: not made yet", x.transition(1, 1, 15), BAD);
        x.state(14, 1);
        for (int target : new int[] {MIN, -3, -2, 0, 16, 17, MAX}) {
            CHECK.due("4: target " + target, x.transition(1, 1, target), BAD);
        }
        CHECK.due("4: none", x.transition(1, 1, -1), 0);
        CHECK.due("4: the least", x.transition(1, 2, 1), 1);
        CHECK.due("4: the greatest", x.transition(1, 3, 15), 2);
        x.begin();
        send(x, 1);
        CHECK.records("4: none", x, 3000);
        send(x, 2);
        CHECK.records("4: the least", x, 2001, 3001, 1001);
        send(x, 3);
        CHECK.records("4: the greatest", x, 2001, 3002, 1014, 1015);
        MicrostepChart y = plainStates(13);
        y.state(13, 1);
        y.state(13, 5);
        CHECK.due("4: the greatest, a history", y.transition(1, 1, 15), 0);
        y.begin();
        send(y, 1);
        CHECK.records("4: a history", y, 2001, 3000, 1013, 1014);
    }

    private static void twentyTransitions() {
        MicrostepChart x = plainStates(1);
        for (int t = 0; t < 20; t++) {
            CHECK.due("4: transition " + t, x.transition(1, t + 1, -1), t);
        }
        CHECK.due("4: the 21st", x.transition(1, 1, -1), FULL);
        CHECK.due("4: the 21st with a target", x.transition(1, 0, 1), FULL);
        CHECK.due("4: BAD before FULL, source", x.transition(2, 1, -1), BAD);
        CHECK.due("4: BAD before FULL, event", x.transition(1, 21, -1), BAD);
        CHECK.due("4: BAD before FULL, target", x.transition(1, 1, 2), BAD);
        x.begin();
        for (int event = 1; event <= 20; event++) {
            CHECK.due("4: taken", send(x, event), 1);
            CHECK.records("4: taken", x, 3000 + event - 1);
        }
    }

    private static void guardOfTheLeastAndGreatestTransition() {
        MicrostepChart x = plainStates(1);
        for (int t = 0; t < 19; t++) {
            x.transition(1, t + 1, -1);
        }
        CHECK.due("5: 19 is not made yet", x.guard(19, 0, 0, 0), false);
        x.transition(1, 20, -1);
        for (int t : new int[] {MIN, -1, 20, 21, MAX}) {
            CHECK.due("5: transition " + t, x.guard(t, 0, 0, 0), false);
        }
        CHECK.due("5: the least", x.guard(0, 0, 0, 0), true);
        CHECK.due("5: the greatest", x.guard(19, 0, 0, 0), true);
        x.begin();
        CHECK.due("5: the least is held back", send(x, 1), 0);
        CHECK.due("5: the next one is not", send(x, 2), 1);
        CHECK.due("5: the last but one is not", send(x, 19), 1);
        CHECK.due("5: the greatest is held back", send(x, 20), 0);
    }

    /** Whether the transition of event 1 is taken when variable v is held and all other variables are one less. */
    private static void dueThrough(int v, int held, int op, int value, boolean want) {
        MicrostepChart x = plainStates(1);
        x.transition(1, 1, -1);
        for (int i = 0; i <= 3; i++) {
            x.action(101, 0, i, i == v ? held : held - 1);
        }
        String name = "5: variable " + v + " " + held + ", op " + op + " " + value;
        CHECK.due(name, x.guard(0, v, op, value), true);
        x.begin();
        CHECK.due(name, send(x, 1), want ? 1 : 0);
    }

    private static void guardVariablesLeastAndGreatest() {
        for (int v = 0; v <= 3; v++) {
            dueThrough(v, 7, 0, 7, false);
            dueThrough(v, 7, 0, 8, true);
            dueThrough(v, 7, 1, 6, false);
            dueThrough(v, 7, 1, 7, true);
            dueThrough(v, 7, 1, 8, false);
            dueThrough(v, 7, 2, 6, true);
            dueThrough(v, 7, 2, 7, false);
        }
        MicrostepChart x = plainStates(1);
        x.transition(1, 1, -1);
        for (int what : new int[] {MIN, -1, 4, 5, MAX}) {
            for (int op = 0; op <= 3; op++) {
                CHECK.due("5: what " + what, x.guard(0, what, op, 1), false);
            }
        }
        for (int op : new int[] {MIN, -1, 4, 5, MAX}) {
            CHECK.due("5: op " + op, x.guard(0, 0, op, 1), false);
        }
    }

    private static void guardValuesLeastAndGreatest() {
        int[] values = {MIN, MIN + 1, -1, 0, 1, MAX - 1, MAX};
        for (int held : values) {
            for (int value : values) {
                dueThrough(1, held, 0, value, held < value);
                dueThrough(1, held, 1, value, held == value);
                dueThrough(1, held, 2, value, held > value);
            }
        }
    }

    private static void guardStatesLeastAndGreatest() {
        for (int initial : new int[] {1, 15}) {
            for (int value : new int[] {1, 2, 14, 15}) {
                MicrostepChart x = plainStates(15);
                x.initial(initial);
                x.transition(initial, 1, -1);
                CHECK.due("5: state " + value, x.guard(0, 0, 3, value), true);
                x.begin();
                CHECK.due("5: state " + value + " is active", send(x, 1), value == initial ? 1 : 0);
            }
        }
        MicrostepChart x = plainStates(14);
        x.transition(1, 1, -1);
        CHECK.due("5: 15 is not made yet", x.guard(0, 0, 3, 15), false);
        x.state(1, 4);
        CHECK.due("5: 15 is a history", x.guard(0, 0, 3, 15), false);
        for (int value : new int[] {MIN, -1, 0, 16, 32, MAX}) {
            CHECK.due("5: no state " + value, x.guard(0, 0, 3, value), false);
        }
        for (int what = 1; what <= 3; what++) {
            CHECK.due("5: what must be 0", x.guard(0, what, 3, 1), false);
        }
    }

    private static void guardInPlaceOfTheOneItHad() {
        MicrostepChart x = plainStates(2);
        x.transition(1, 1, -1);
        CHECK.due("5: never", x.guard(0, 0, 0, MIN), true);
        CHECK.due("5: in state 2", x.guard(0, 0, 3, 2), true);
        CHECK.due("5: in state 1", x.guard(0, 0, 3, 1), true);
        x.begin();
        CHECK.due("5: the last one counts alone", send(x, 1), 1);
        x.reset();
        CHECK.due("5: never again", x.guard(0, 3, 2, MAX), true);
        x.begin();
        CHECK.due("5: the new one counts", send(x, 1), 0);
    }

    private static void ownersLeastAndGreatest() {
        MicrostepChart x = plainStates(15);
        for (int t = 0; t < 20; t++) {
            x.transition(t == 19 ? 15 : 1, t == 19 ? 2 : 1, t == 19 ? 1 : 15);
        }
        int[] owners = {0, 19, 101, 115, 201, 215};
        for (int i = 0; i < owners.length; i++) {
            CHECK.due("6: owner " + owners[i], x.action(owners[i], 1, 0, 1 << 4 * i), true);
        }
        x.begin();
        CHECK.due("6: entry of 1", x.variable(0), 0x000100);
        send(x, 1);
        CHECK.due("6: exit of 1, transition 0, entry of 15", x.variable(0), 0x011101);
        send(x, 2);
        CHECK.due("6: exit of 15, transition 19, entry of 1", x.variable(0), 0x111211);
    }

    private static void ownersThatAreNot() {
        MicrostepChart x = plainStates(14);
        for (int t = 0; t < 19; t++) {
            x.transition(1, 1, -1);
        }
        for (int owner : new int[] {19, 115, 215}) {
            CHECK.due("6: owner " + owner + " is not made yet", x.action(owner, 0, 0, 1), false);
        }
        x.transition(1, 1, -1);
        x.state(1, 4);
        int[] owners = {MIN, MIN + 101, MIN + 201, -1, 20, 99, 100, 115, 116, 199, 200, 215, 216, 300, 301, MAX};
        for (int owner : owners) {
            CHECK.due("6: owner " + owner, x.action(owner, 0, 0, 1), false);
        }
    }

    private static void variablesOfActions() {
        MicrostepChart x = plainStates(1);
        x.transition(1, 1, -1);
        for (int a : new int[] {MIN, -1, 4, 5, MAX}) {
            CHECK.due("6: SET " + a, x.action(0, 0, a, 1), false);
            CHECK.due("6: ADD " + a, x.action(0, 1, a, 1), false);
        }
        for (int op : new int[] {MIN, -1, 4, 5, MAX}) {
            CHECK.due("6: op " + op, x.action(0, op, 1, 0), false);
        }
        CHECK.due("6: SET the least variable", x.action(101, 0, 0, MAX), true);
        CHECK.due("6: SET the greatest variable", x.action(101, 0, 3, MIN), true);
        CHECK.due("6: ADD to the least", x.action(0, 1, 0, MIN), true);
        CHECK.due("6: ADD to the greatest", x.action(0, 1, 3, MAX), true);
        x.begin();
        CHECK.due("6: set", x.variable(0), MAX);
        CHECK.due("6: set", x.variable(3), MIN);
        send(x, 1);
        CHECK.due("6: added", x.variable(0), -1);
        CHECK.due("6: added", x.variable(3), -1);
        CHECK.due("6: no other", x.variable(1), 0);
        CHECK.due("6: no other", x.variable(2), 0);
    }

    private static void eventsOfActions() {
        MicrostepChart x = plainStates(1);
        x.transition(1, 1, -1);
        x.transition(1, 20, -1);
        x.transition(1, 5, -1);
        for (int a : new int[] {MIN, -1, 0, 21, 22, 101, MAX}) {
            CHECK.due("6: RAISE " + a, x.action(2, 2, a, 0), false);
            CHECK.due("6: SEND " + a, x.action(2, 3, a, 0), false);
            CHECK.due("6: SEND for later " + a, x.action(2, 3, a, 1), false);
        }
        for (int b : new int[] {MIN, -1, 1, 2, MAX}) {
            CHECK.due("6: RAISE with b " + b, x.action(2, 2, 1, b), false);
        }
        CHECK.due("6: RAISE the greatest", x.action(2, 2, 20, 0), true);
        CHECK.due("6: RAISE the least", x.action(2, 2, 1, 0), true);
        CHECK.due("6: SEND the greatest", x.action(2, 3, 20, 0), true);
        CHECK.due("6: SEND the least", x.action(2, 3, 1, 0), true);
        x.begin();
        CHECK.due("6: raised", send(x, 5), 3);
        CHECK.records("6: raised", x, 3002, 3001, 3000);
        x.step();
        CHECK.records("6: sent", x, 3001);
        x.step();
        CHECK.records("6: sent", x, 3000);
    }

    private static void delaysLeastAndGreatest() {
        MicrostepChart x = plainStates(1);
        for (int b : new int[] {MIN, -1, 51, 52, MAX}) {
            CHECK.due("6: SEND after " + b, x.action(101, 3, 1, b), false);
        }
        for (int b : new int[] {0, 1, 49, 50}) {
            CHECK.due("6: SEND after " + b, x.action(101, 3, 1, b), true);
        }
        x.begin();
        CHECK.waiting("6: after 0 it is in the external line", x, 0, 1, 3);
        x.tick(1);
        CHECK.waiting("6: after 1", x, 0, 2, 2);
        x.tick(47);
        CHECK.waiting("6: before 49", x, 0, 2, 2);
        x.tick(1);
        CHECK.waiting("6: after 49", x, 0, 3, 1);
        x.tick(1);
        CHECK.waiting("6: after 50", x, 0, 4, 0);
    }

    private static void thirtyTwoActionsInAll() {
        int[] owners = {0, 1, 101, 102, 201, 202};
        for (int last : owners) {
            MicrostepChart x = plainStates(2);
            x.transition(1, 1, 2);
            x.transition(2, 1, 1);
            for (int i = 0; i < 31; i++) {
                CHECK.due("6: action " + i, x.action(owners[i % 6], 1, 0, 1), true);
            }
            CHECK.due("6: the 32nd, of " + last, x.action(last, 1, 1, 1), true);
            for (int owner : owners) {
                CHECK.due("6: a 33rd, of " + owner, x.action(owner, 1, 2, 1), false);
            }
            x.begin();
            send(x, 1);
            send(x, 1);
            // Owner 101 is done twice: when the run begins, and at the end.
            CHECK.due("6: 31 are done", x.variable(0), 31 + 5);
            CHECK.due("6: the 32nd is done", x.variable(1), last == 101 ? 2 : 1);
            CHECK.due("6: the 33rd is not", x.variable(2), 0);
        }
    }
}

/** Promises 1 to 6: what may be built, and what is refused. */
public final class BuildingTest {
    private static final int MIN = Integer.MIN_VALUE;
    private static final int MAX = Integer.MAX_VALUE;
    private static final Check CHECK = new Check();

    public static void main(String[] args) {
        newObject();
        stateNumbersAndRefusals();
        stateFull();
        initialChoosesTheChild();
        initialRefusals();
        transitionNumbersAndRefusals();
        transitionFull();
        guardOps();
        guardReplaced();
        guardRefusals();
        actionOps();
        actionRefusals();
        actionLimit();
        nothingIsBuiltDuringARun();
        CHECK.end("BuildingTest");
    }

    private static void newObject() {
        MicrostepChart x = new MicrostepChart();
        CHECK.due("1: outcome", x.outcome(), 0);
        CHECK.due("1: active", x.active(), 0);
        CHECK.due("1: begin without states", x.begin(), MicrostepChart.ILL);
        CHECK.due("1: step", x.step(), MicrostepChart.BAD);
        CHECK.due("1: tick", x.tick(1), MicrostepChart.BAD);
        CHECK.due("1: post", x.post(1), false);
        CHECK.due("1: first transition needs a state", x.transition(0, 1, -1), MicrostepChart.BAD);
        CHECK.due("1: first state", x.state(0, 1), 1);
    }

    private static void stateNumbersAndRefusals() {
        MicrostepChart x = new MicrostepChart();
        CHECK.due("2: kind 0", x.state(0, 0), -1);
        CHECK.due("2: kind 6", x.state(0, 6), -1);
        CHECK.due("2: kind min", x.state(0, MIN), -1);
        CHECK.due("2: kind max", x.state(0, MAX), -1);
        CHECK.due("2: parent -1", x.state(-1, 1), -1);
        CHECK.due("2: parent not made", x.state(1, 1), -1);
        CHECK.due("2: parent min", x.state(MIN, 1), -1);
        CHECK.due("2: parent max", x.state(MAX, 1), -1);
        CHECK.due("2: shallow in 0", x.state(0, 4), -1);
        CHECK.due("2: deep in 0", x.state(0, 5), -1);
        CHECK.due("2: plain in 0", x.state(0, 1), 1);
        CHECK.due("2: parallel in 0", x.state(0, 2), 2);
        CHECK.due("2: final in 0", x.state(0, 3), 3);
        CHECK.due("2: final in parallel", x.state(2, 3), -1);
        CHECK.due("2: shallow in parallel", x.state(2, 4), 4);
        CHECK.due("2: deep in parallel", x.state(2, 5), 5);
        CHECK.due("2: parallel in parallel", x.state(2, 2), 6);
        CHECK.due("2: plain in parallel", x.state(2, 1), 7);
        CHECK.due("2: in final", x.state(3, 1), -1);
        CHECK.due("2: in shallow", x.state(4, 1), -1);
        CHECK.due("2: in deep", x.state(5, 1), -1);
        CHECK.due("2: final in plain", x.state(1, 3), 8);
        CHECK.due("2: shallow in plain", x.state(1, 4), 9);
        CHECK.due("2: deep in plain", x.state(1, 5), 10);
    }

    private static void stateFull() {
        MicrostepChart x = new MicrostepChart();
        for (int s = 1; s <= 15; s++) {
            CHECK.due("2: state", x.state(s == 1 ? 0 : 1, s % 3 == 0 ? 4 : 1), s);
        }
        CHECK.due("2: a sixteenth", x.state(0, 1), MicrostepChart.FULL);
        CHECK.due("2: a sixteenth, history", x.state(1, 4), MicrostepChart.FULL);
        CHECK.due("2: a sixteenth, BAD comes first", x.state(16, 1), MicrostepChart.BAD);
        CHECK.due("2: a sixteenth, kind BAD", x.state(0, 9), MicrostepChart.BAD);
        CHECK.due("2: 15 states run", x.begin(), 0);
        CHECK.due("2: active", x.active(), 6);
    }

    private static void initialChoosesTheChild() {
        MicrostepChart x = new MicrostepChart();
        x.state(0, 1);
        x.state(0, 1);
        x.state(2, 4);
        x.state(2, 1);
        x.state(2, 1);
        x.state(2, 3);
        CHECK.due("3: first child by default", x.begin(), 0);
        CHECK.due("3: active", x.active(), 2);
        x.reset();
        CHECK.due("3: initial(2)", x.initial(2), true);
        x.begin();
        CHECK.due("3: a history is not the first child", x.active(), 4 + 16);
        x.reset();
        CHECK.due("3: initial(6), a final state", x.initial(6), true);
        x.begin();
        CHECK.due("3: active", x.active(), 4 + 64);
        x.reset();
        CHECK.due("3: initial(5) again", x.initial(5), true);
        x.begin();
        CHECK.due("3: active", x.active(), 4 + 32);
        x.reset();
        CHECK.due("3: back to the first", x.initial(4), true);
        x.begin();
        CHECK.due("3: active", x.active(), 4 + 16);
    }

    private static void initialRefusals() {
        MicrostepChart x = new MicrostepChart();
        x.state(0, 1);
        x.state(0, 2);
        x.state(2, 1);
        x.state(1, 5);
        x.state(1, 1);
        for (int child : new int[] {0, -1, 6, 16, 32, MIN, MAX}) {
            CHECK.due("3: no such state " + child, x.initial(child), false);
        }
        CHECK.due("3: parallel parent", x.initial(3), false);
        CHECK.due("3: a history", x.initial(4), false);
        CHECK.due("3: ordinary", x.initial(5), true);
        x.begin();
        CHECK.due("3: not building", x.initial(2), false);
        x.reset();
        x.begin();
        CHECK.due("3: the refused calls changed nothing", x.active(), 2 + 32);
    }

    private static void transitionNumbersAndRefusals() {
        MicrostepChart x = new MicrostepChart();
        x.state(0, 1);
        x.state(0, 2);
        x.state(2, 1);
        x.state(2, 5);
        x.state(0, 3);
        x.state(3, 4);
        for (int source : new int[] {0, -1, 4, 5, 6, 7, 16, MIN, MAX}) {
            CHECK.due("4: source " + source, x.transition(source, 1, 1), -1);
        }
        for (int event : new int[] {-1, 21, 99, 100, 104, 106, 107, 116, 200, MIN, MAX, MIN + 101}) {
            CHECK.due("4: event " + event, x.transition(1, event, 1), -1);
        }
        for (int target : new int[] {0, -2, 7, 16, MIN, MAX}) {
            CHECK.due("4: target " + target, x.transition(1, 1, target), -1);
        }
        int t = 0;
        for (int event : new int[] {0, 1, 20, 101, 102, 103, 105}) {
            CHECK.due("4: event " + event, x.transition(1, event, 1), t++);
        }
        for (int target : new int[] {-1, 1, 2, 3, 4, 5, 6}) {
            CHECK.due("4: target " + target, x.transition(2, 1, target), t++);
        }
        CHECK.due("4: plain source in parallel", x.transition(3, 1, 1), t);
    }

    private static void transitionFull() {
        MicrostepChart x = new MicrostepChart();
        x.state(0, 1);
        x.state(0, 1);
        for (int t = 0; t < 20; t++) {
            CHECK.due("4: transition", x.transition(1, t + 1, t == 19 ? 2 : -1), t);
        }
        CHECK.due("4: a 21st", x.transition(1, 1, 2), MicrostepChart.FULL);
        CHECK.due("4: a 21st, BAD comes first", x.transition(0, 1, 2), MicrostepChart.BAD);
        x.begin();
        CHECK.due("4: not building", x.transition(1, 1, 2), MicrostepChart.BAD);
        x.post(20);
        CHECK.due("4: the last one is taken", x.step(), 1);
        CHECK.records("4", x, 2001, 3019, 1002);
    }

    /** Whether a guard lets the transition of event 1 through when variable 2 is 5 and state 1 alone is active. */
    private static void dueThrough(int what, int op, int value, boolean want) {
        MicrostepChart x = new MicrostepChart();
        x.state(0, 1);
        x.state(0, 1);
        x.transition(1, 1, -1);
        x.action(101, 0, 2, 5);
        CHECK.due("5: guard", x.guard(0, what, op, value), true);
        x.begin();
        x.post(1);
        CHECK.due("5: through " + what + " " + op + " " + value, x.step(), want ? 1 : 0);
    }

    private static void guardOps() {
        dueThrough(2, 0, 4, false);
        dueThrough(2, 0, 5, false);
        dueThrough(2, 0, 6, true);
        dueThrough(2, 0, MIN, false);
        dueThrough(2, 0, MAX, true);
        dueThrough(2, 1, 4, false);
        dueThrough(2, 1, 5, true);
        dueThrough(2, 1, 6, false);
        dueThrough(2, 2, 4, true);
        dueThrough(2, 2, 5, false);
        dueThrough(2, 2, 6, false);
        dueThrough(2, 2, MIN, true);
        dueThrough(3, 1, 0, true);
        dueThrough(0, 1, 5, false);
        dueThrough(0, 3, 1, true);
        dueThrough(0, 3, 2, false);
    }

    private static void guardReplaced() {
        MicrostepChart x = new MicrostepChart();
        x.state(0, 1);
        x.transition(1, 1, -1);
        x.transition(1, 2, -1);
        x.guard(0, 0, 1, 1);
        CHECK.due("5: in place of the old one", x.guard(0, 0, 1, 0), true);
        x.begin();
        x.post(1);
        CHECK.due("5: the new one holds", x.step(), 1);
        x.reset();
        CHECK.due("5: after a run", x.guard(0, 4, 0, 1), false);
        CHECK.due("5: the other transition", x.guard(1, 0, 0, 0), true);
        x.begin();
        x.post(1);
        x.post(2);
        CHECK.due("5: the refused one changed nothing", x.step(), 1);
        CHECK.due("5: each has its own", x.step(), 0);
    }

    private static void guardRefusals() {
        MicrostepChart x = new MicrostepChart();
        CHECK.due("5: no transition yet", x.guard(0, 0, 0, 0), false);
        x.state(0, 1);
        x.state(1, 1);
        x.state(1, 4);
        x.state(0, 3);
        x.transition(2, 1, -1);
        for (int t : new int[] {-1, 1, 20, MIN, MAX}) {
            CHECK.due("5: transition " + t, x.guard(t, 0, 0, 0), false);
        }
        for (int op : new int[] {-1, 4, MIN, MAX}) {
            CHECK.due("5: op " + op, x.guard(0, 0, op, 1), false);
        }
        for (int what : new int[] {-1, 4, MIN, MAX}) {
            for (int op = 0; op <= 3; op++) {
                CHECK.due("5: what " + what + " op " + op, x.guard(0, what, op, 1), false);
            }
        }
        for (int what = 1; what <= 3; what++) {
            CHECK.due("5: op 3 what " + what, x.guard(0, what, 3, 1), false);
        }
        for (int value : new int[] {0, -1, 3, 5, 16, 33, MIN, MAX}) {
            CHECK.due("5: op 3 value " + value, x.guard(0, 0, 3, value), false);
        }
        CHECK.due("5: final state", x.guard(0, 0, 3, 4), true);
        CHECK.due("5: plain state", x.guard(0, 0, 3, 1), true);
        for (int what = 0; what <= 3; what++) {
            CHECK.due("5: variable " + what, x.guard(0, what, 1, MIN), true);
        }
        x.begin();
        CHECK.due("5: not building", x.guard(0, 0, 1, 0), false);
    }

    private static void actionOps() {
        MicrostepChart x = new MicrostepChart();
        x.state(0, 1);
        x.state(0, 3);
        x.transition(1, 1, 2);
        x.transition(1, 2, -1);
        CHECK.due("6: SET at entry", x.action(101, 0, 0, MAX), true);
        CHECK.due("6: ADD at entry", x.action(101, 1, 0, 1), true);
        CHECK.due("6: SET again", x.action(101, 0, 3, 7), true);
        CHECK.due("6: ADD then", x.action(101, 1, 3, -9), true);
        CHECK.due("6: at exit", x.action(201, 1, 1, 3), true);
        CHECK.due("6: of a transition", x.action(0, 1, 1, 10), true);
        CHECK.due("6: entry of a final state", x.action(102, 0, 1, 50), true);
        CHECK.due("6: exit of a final state", x.action(202, 0, 1, 60), true);
        CHECK.due("6: RAISE", x.action(1, 2, 20, 0), true);
        CHECK.due("6: SEND now", x.action(1, 3, 1, 0), true);
        CHECK.due("6: SEND later", x.action(1, 3, 1, 50), true);
        x.begin();
        CHECK.due("6: ADD wraps", x.variable(0), MIN);
        CHECK.due("6: in the order given", x.variable(3), -2);
        CHECK.due("6: exit not yet", x.variable(1), 0);
        x.post(2);
        CHECK.due("6: step", x.step(), 1);
        CHECK.waiting("6: raised was used up, sent", x, 0, 1, 1);
        CHECK.due("6: step", x.step(), 1);
        CHECK.due("6: entry came last", x.variable(1), 50);
    }

    private static void actionRefusals() {
        MicrostepChart x = new MicrostepChart();
        CHECK.due("6: no transition yet", x.action(0, 0, 0, 0), false);
        CHECK.due("6: no state yet", x.action(101, 0, 0, 0), false);
        x.state(0, 1);
        x.state(1, 1);
        x.state(1, 4);
        x.transition(1, 1, -1);
        for (int owner : new int[] {-1, 1, 20, 99, 100, 103, 104, 199, 200, 203, 204, 300, 301, MIN, MAX, MIN + 101}) {
            CHECK.due("6: owner " + owner, x.action(owner, 0, 0, 0), false);
        }
        for (int op : new int[] {-1, 4, MIN, MAX}) {
            CHECK.due("6: op " + op, x.action(0, op, 1, 0), false);
        }
        for (int v : new int[] {-1, 4, MIN, MAX}) {
            CHECK.due("6: SET " + v, x.action(0, 0, v, 0), false);
            CHECK.due("6: ADD " + v, x.action(0, 1, v, 0), false);
        }
        for (int event : new int[] {0, -1, 21, 101, MIN, MAX}) {
            CHECK.due("6: RAISE " + event, x.action(0, 2, event, 0), false);
            CHECK.due("6: SEND " + event, x.action(0, 3, event, 0), false);
        }
        for (int b : new int[] {-1, 1, MIN, MAX}) {
            CHECK.due("6: RAISE with b " + b, x.action(0, 2, 1, b), false);
        }
        for (int b : new int[] {-1, 51, MIN, MAX}) {
            CHECK.due("6: SEND with b " + b, x.action(0, 3, 1, b), false);
        }
        x.begin();
        CHECK.due("6: not building", x.action(0, 0, 0, 0), false);
        x.post(1);
        CHECK.due("6: step", x.step(), 1);
        CHECK.waiting("6: no refused action was given", x, 0, 0, 0);
    }

    private static void actionLimit() {
        MicrostepChart x = new MicrostepChart();
        x.state(0, 1);
        x.transition(1, 1, -1);
        for (int i = 0; i < 32; i++) {
            CHECK.due("6: action " + i, x.action(i % 3 == 0 ? 0 : i % 3 == 1 ? 101 : 201, 1, 0, 1), true);
        }
        CHECK.due("6: a 33rd", x.action(0, 1, 0, 1), false);
        CHECK.due("6: a 33rd at entry", x.action(101, 1, 0, 1), false);
        x.begin();
        CHECK.due("6: entry actions", x.variable(0), 11);
        x.post(1);
        x.step();
        CHECK.due("6: transition actions", x.variable(0), 22);
    }

    private static void nothingIsBuiltDuringARun() {
        MicrostepChart x = new MicrostepChart();
        x.state(0, 1);
        x.state(0, 3);
        x.transition(1, 1, 2);
        x.begin();
        for (int pass = 0; pass < 2; pass++) {
            CHECK.due("2: not building", x.state(0, 1), MicrostepChart.BAD);
            CHECK.due("3: not building", x.initial(2), false);
            CHECK.due("4: not building", x.transition(1, 1, -1), MicrostepChart.BAD);
            CHECK.due("5: not building", x.guard(0, 0, 0, 0), false);
            CHECK.due("6: not building", x.action(0, 0, 0, 0), false);
            x.post(1);
            x.step();
        }
        CHECK.due("finished between", x.outcome(), 2);
        x.reset();
        CHECK.due("2: building again", x.state(0, 1), 3);
        CHECK.due("4: building again", x.transition(3, 1, -1), 1);
        CHECK.due("6: building again", x.action(1, 0, 0, 0), true);
        CHECK.due("5: building again", x.guard(1, 0, 0, 0), true);
        CHECK.due("3: building again", x.initial(3), true);
        x.begin();
        CHECK.due("as built", x.active(), 8);
    }
}

/** "A call that answers a code below 0 or false changes nothing": each reason for a refusal, at each time. */
public final class RefusedTest {
    private static final int MIN = Integer.MIN_VALUE;
    private static final int MAX = Integer.MAX_VALUE;
    private static final int BAD = MicrostepChart.BAD;
    private static final int FULL = MicrostepChart.FULL;
    private static final int ILL = MicrostepChart.ILL;
    private static final int EMPTY = MicrostepChart.EMPTY;
    private static final int NONE_YET = Sample.STATES + 1;
    private static final Check CHECK = new Check();

    public static void main(String[] args) {
        sampleIsWhatItSays();
        newObject();
        for (Twins.Maker maker : new Twins.Maker[] {Sample::building, Sample::afterReset}) {
            runningCalls("building", maker);
            badStates(maker);
            badInitials(maker);
            badTransitions(maker);
            badGuards(maker);
            badGuardsInAState(maker);
            badOwners(maker);
            badActions(maker);
        }
        fullChart();
        notWhole();
        whileGoingOn();
        fullExternalLine();
        buildingCalls("finished", Sample::finished);
        runningCalls("finished", Sample::finished);
        buildingCalls("out of fuel", Sample::outOfFuel);
        runningCalls("out of fuel", Sample::outOfFuel);
        buildingCalls("out of room", Sample::outOfRoom);
        runningCalls("out of room", Sample::outOfRoom);
        CHECK.end("RefusedTest");
    }

    private static void no(String name, Twins.Maker maker, Twins.YesNo call) {
        Twins.refused(CHECK, name, maker, call);
    }

    private static void no(String name, Twins.Maker maker, int want, Twins.Call call) {
        Twins.refused(CHECK, name, maker, want, call);
    }

    private static void sampleIsWhatItSays() {
        CHECK.due("sample building", Sample.building().outcome(), 0);
        CHECK.due("sample after reset", Sample.afterReset().outcome(), 0);
        CHECK.due("sample going on", Sample.goingOn().outcome(), 1);
        CHECK.waiting("sample going on", Sample.goingOn(), 0, 1, 1);
        CHECK.due("sample finished", Sample.finished().outcome(), 2);
        CHECK.waiting("sample finished", Sample.finished(), 1, 1, 1);
        CHECK.due("sample out of fuel", Sample.outOfFuel().outcome(), 3);
        CHECK.due("sample out of room", Sample.outOfRoom().outcome(), 4);
        CHECK.waiting("sample out of room", Sample.outOfRoom(), 16, 1, 0);
    }

    private static void newObject() {
        Twins.Maker maker = MicrostepChart::new;
        runningCalls("new", maker);
        no("7: state 0 has none", maker, ILL, x -> x.begin());
        no("2: parent not made", maker, BAD, x -> x.state(1, 1));
        no("3: no state", maker, x -> x.initial(1));
        no("3: state 0", maker, x -> x.initial(0));
        no("4: no source", maker, BAD, x -> x.transition(1, 1, -1));
        no("5: no transition", maker, x -> x.guard(0, 0, 0, 0));
        no("6: no transition", maker, x -> x.action(0, 0, 0, 0));
        no("6: no entry", maker, x -> x.action(101, 0, 0, 0));
        no("6: no exit", maker, x -> x.action(201, 0, 0, 0));
    }

    /** What is refused because the run is not going on. */
    private static void runningCalls(String time, Twins.Maker maker) {
        no("8: " + time, maker, x -> x.post(1));
        no("8: " + time + ", 20", maker, x -> x.post(20));
        no("9: " + time, maker, BAD, x -> x.step());
        no("10: " + time, maker, BAD, x -> x.tick(1));
        no("10: " + time + ", 50", maker, BAD, x -> x.tick(50));
    }

    /** What is refused because it is not the time of building; each call would be good then. */
    private static void buildingCalls(String time, Twins.Maker maker) {
        no("2: " + time, maker, BAD, x -> x.state(0, 1));
        no("2: " + time + ", a history", maker, BAD, x -> x.state(1, 4));
        no("3: " + time, maker, x -> x.initial(4));
        no("4: " + time, maker, BAD, x -> x.transition(3, 2, 4));
        no("5: " + time, maker, x -> x.guard(1, 0, 1, 7));
        no("5: " + time + ", in place of one", maker, x -> x.guard(0, 0, 1, 7));
        no("6: " + time + ", transition", maker, x -> x.action(1, 0, 0, 7));
        no("6: " + time + ", entry", maker, x -> x.action(101, 0, 0, 7));
        no("6: " + time + ", exit", maker, x -> x.action(203, 0, 0, 7));
        no("7: " + time, maker, BAD, x -> x.begin());
    }

    private static void badStates(Twins.Maker maker) {
        for (int kind : new int[] {MIN, -1, 0, 6, 7, MAX}) {
            no("2: kind " + kind, maker, BAD, x -> x.state(0, kind));
            no("2: kind " + kind + " in a parallel one", maker, BAD, x -> x.state(Sample.PARALLEL, kind));
        }
        int[] parents = {MIN, -1, Sample.DEEP, Sample.SHALLOW, Sample.FINAL, NONE_YET, 15, 16, 32, MAX};
        for (int parent : parents) {
            for (int kind = 1; kind <= 5; kind++) {
                int of = kind;
                no("2: parent " + parent + ", kind " + kind, maker, BAD, x -> x.state(parent, of));
            }
        }
        no("2: final in a parallel one", maker, BAD, x -> x.state(Sample.PARALLEL, 3));
        no("2: shallow in state 0", maker, BAD, x -> x.state(0, 4));
        no("2: deep in state 0", maker, BAD, x -> x.state(0, 5));
    }

    private static void badInitials(Twins.Maker maker) {
        for (int child : new int[] {MIN, -1, 0, Sample.DEEP, Sample.SHALLOW, 6, 7, NONE_YET, 15, 16, 36, MAX}) {
            no("3: child " + child, maker, x -> x.initial(child));
        }
    }

    private static void badTransitions(Twins.Maker maker) {
        int[] sources = {MIN, -1, 0, Sample.DEEP, Sample.SHALLOW, Sample.FINAL, 11, NONE_YET, 15, 16, 33, MAX};
        for (int source : sources) {
            no("4: source " + source, maker, BAD, x -> x.transition(source, 1, 4));
            no("4: source " + source + ", no target", maker, BAD, x -> x.transition(source, 1, -1));
        }
        int[] events = {MIN, MIN + 101, -1, 21, 99, 100, 102, 108, 100 + NONE_YET, 115, 116, 133, MAX};
        for (int event : events) {
            no("4: event " + event, maker, BAD, x -> x.transition(1, event, 4));
        }
        for (int target : new int[] {MIN, -2, 0, NONE_YET, 15, 16, 36, MAX}) {
            no("4: target " + target, maker, BAD, x -> x.transition(1, 1, target));
        }
    }

    private static void badGuards(Twins.Maker maker) {
        for (int t : new int[] {MIN, -1, Sample.TRANSITIONS, 19, 20, 32, MAX}) {
            for (int op = 0; op <= 3; op++) {
                int of = op;
                no("5: transition " + t + ", op " + op, maker, x -> x.guard(t, 0, of, 3));
            }
        }
        for (int op : new int[] {MIN, -1, 4, 5, MAX}) {
            no("5: op " + op, maker, x -> x.guard(0, 0, op, 3));
        }
        for (int what : new int[] {MIN, -1, 4, 5, MAX}) {
            for (int op = 0; op <= 3; op++) {
                int of = op;
                no("5: what " + what + ", op " + op, maker, x -> x.guard(0, what, of, 3));
            }
        }
    }

    private static void badGuardsInAState(Twins.Maker maker) {
        for (int what = 1; what <= 3; what++) {
            int of = what;
            no("5: op 3, what " + what, maker, x -> x.guard(0, of, 3, 3));
        }
        for (int value : new int[] {MIN, -1, 0, Sample.DEEP, Sample.SHALLOW, NONE_YET, 15, 16, 35, MAX}) {
            no("5: op 3, value " + value, maker, x -> x.guard(0, 0, 3, value));
        }
    }

    private static void badOwners(Twins.Maker maker) {
        int[] owners = {MIN, MIN + 101, MIN + 201, -1, Sample.TRANSITIONS, 19, 20, 32, 99, 100, 102, 108,
            100 + NONE_YET, 115, 116, 132, 199, 200, 202, 208, 200 + NONE_YET, 215, 216, 232, 301, MAX};
        for (int owner : owners) {
            no("6: owner " + owner, maker, x -> x.action(owner, 0, 0, 7));
            no("6: owner " + owner + " RAISE", maker, x -> x.action(owner, 2, 1, 0));
        }
    }

    private static void badActions(Twins.Maker maker) {
        for (int owner : new int[] {0, 103, 203}) {
            for (int op : new int[] {MIN, -1, 4, 5, MAX}) {
                no("6: op " + op, maker, x -> x.action(owner, op, 1, 0));
            }
            for (int a : new int[] {MIN, -1, 4, 5, MAX}) {
                no("6: SET a " + a, maker, x -> x.action(owner, 0, a, 7));
                no("6: ADD a " + a, maker, x -> x.action(owner, 1, a, 7));
            }
            for (int a : new int[] {MIN, -1, 0, 21, 22, 101, MAX}) {
                no("6: RAISE a " + a, maker, x -> x.action(owner, 2, a, 0));
                no("6: SEND a " + a, maker, x -> x.action(owner, 3, a, 0));
                no("6: SEND a " + a + " for later", maker, x -> x.action(owner, 3, a, 50));
            }
            for (int b : new int[] {MIN, -1, 1, 50, MAX}) {
                no("6: RAISE b " + b, maker, x -> x.action(owner, 2, 1, b));
            }
            for (int b : new int[] {MIN, -1, 51, 52, MAX}) {
                no("6: SEND b " + b, maker, x -> x.action(owner, 3, 1, b));
            }
        }
    }

    private static MicrostepChart fullOfEverything() {
        MicrostepChart x = Sample.building();
        for (int i = Sample.STATES; i < 15; i++) {
            x.state(3, 1);
        }
        for (int i = Sample.TRANSITIONS; i < 20; i++) {
            x.transition(13, 10, -1);
        }
        for (int i = 0; i < 32; i++) {
            x.action(19, 1, 3, 1);
        }
        return x;
    }

    private static void fullChart() {
        Twins.Maker maker = RefusedTest::fullOfEverything;
        no("2: FULL", maker, FULL, x -> x.state(0, 1));
        no("2: FULL, a child of the last", maker, FULL, x -> x.state(15, 1));
        no("2: FULL, a history", maker, FULL, x -> x.state(1, 4));
        no("2: BAD before FULL, parent", maker, BAD, x -> x.state(16, 1));
        no("2: BAD before FULL, kind", maker, BAD, x -> x.state(0, 6));
        no("2: BAD before FULL, final in a parallel one", maker, BAD, x -> x.state(Sample.PARALLEL, 3));
        no("2: BAD before FULL, history in 0", maker, BAD, x -> x.state(0, 5));
        no("4: FULL", maker, FULL, x -> x.transition(1, 1, 15));
        no("4: FULL, no target", maker, FULL, x -> x.transition(15, 115, -1));
        no("4: BAD before FULL, source", maker, BAD, x -> x.transition(0, 1, 15));
        no("4: BAD before FULL, event", maker, BAD, x -> x.transition(1, 21, 15));
        no("4: BAD before FULL, target", maker, BAD, x -> x.transition(1, 1, 16));
        no("5: there is no 21st", maker, x -> x.guard(20, 0, 0, 0));
        no("6: 32 were given", maker, x -> x.action(0, 0, 0, 7));
        no("6: 32 were given, entry", maker, x -> x.action(115, 0, 0, 7));
        no("6: 32 were given, exit", maker, x -> x.action(215, 0, 0, 7));
        no("6: 32 were given, RAISE", maker, x -> x.action(0, 2, 1, 0));
        no("6: 32 were given, SEND", maker, x -> x.action(0, 3, 1, 0));
    }

    private static MicrostepChart sampleWith(int parent, int kind) {
        MicrostepChart x = Sample.building();
        x.state(parent, kind);
        return x;
    }

    private static void notWhole() {
        no("7: a parallel state has no child", () -> sampleWith(0, 2), ILL, x -> x.begin());
        no("7: one that is never entered", () -> sampleWith(12, 2), ILL, x -> x.begin());
        no("7: a plain state has a shallow history alone", () -> sampleWith(9, 4), ILL, x -> x.begin());
        no("7: a plain state has a deep history alone", () -> sampleWith(9, 5), ILL, x -> x.begin());
    }

    private static MicrostepChart withEmptyLine() {
        MicrostepChart x = Sample.goingOn();
        x.step();
        return x;
    }

    private static void whileGoingOn() {
        buildingCalls("going on", Sample::goingOn);
        for (int event : new int[] {MIN, -1, 0, 21, 22, 101, MAX}) {
            no("8: event " + event, Sample::goingOn, x -> x.post(event));
        }
        for (int n : new int[] {MIN, -1, 0, 51, 52, MAX}) {
            no("10: n " + n, Sample::goingOn, BAD, x -> x.tick(n));
        }
        no("9: the line is empty", RefusedTest::withEmptyLine, EMPTY, x -> x.step());
    }

    private static MicrostepChart withFullLine() {
        MicrostepChart x = Sample.goingOn();
        for (int i = 1; i < 16; i++) {
            x.post(10 + i % 10);
        }
        return x;
    }

    private static void fullExternalLine() {
        CHECK.waiting("full line", withFullLine(), 0, 16, 1);
        no("8: 16 are there", RefusedTest::withFullLine, x -> x.post(1));
        no("8: 16 are there, 20", RefusedTest::withFullLine, x -> x.post(20));
    }
}

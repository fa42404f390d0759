/** Promises 7 to 11 at their edges. */
public final class EdgesOfRunningTest {
    private static final int MIN = Integer.MIN_VALUE;
    private static final int MAX = Integer.MAX_VALUE;
    private static final int BAD = MicrostepChart.BAD;
    private static final int ILL = MicrostepChart.ILL;
    private static final int EMPTY = MicrostepChart.EMPTY;
    private static final Check CHECK = new Check();

    public static void main(String[] args) {
        stateZeroNeedsAChild();
        parallelNeedsAChild();
        parentOfAHistoryNeedsAChild();
        atomicStatesNeedNone();
        beginAfterEachEnd();
        beginForgetsWhatWasRemembered();
        beginCountsNoMicrostepForEntering();
        beginThatFinishesHasNoMacrostep();
        beginIsBadAfterItself();
        postLeastAndGreatest();
        postSixteen();
        stepIsBadBeforeEmpty();
        stepOnAnEmptyLine();
        stepThatSelectsNothing();
        stepThatFinishesHasNoMacrostep();
        tickLeastAndGreatest();
        tickAtTheEdgeOfDue();
        tickByDueThenBySending();
        tickFarBeyondDue();
        tickAtTheGreatestClock();
        resetAtEachTime();
        resetTwice();
        resetKeepsTheWholeChart();
        resetKeepsGuardsAndInitials();
        fiveHundredAndTwelveCalls();
        CHECK.end("EdgesOfRunningTest");
    }

    private static int send(MicrostepChart x, int event) {
        CHECK.due("post " + event, x.post(event), true);
        return x.step();
    }

    private static void stateZeroNeedsAChild() {
        MicrostepChart x = new MicrostepChart();
        CHECK.due("7: state 0 has none", x.begin(), ILL);
        CHECK.due("7: still building", x.outcome(), 0);
        x.state(0, 1);
        CHECK.due("7: one is enough", x.begin(), 0);
        for (int kind = 2; kind <= 3; kind++) {
            MicrostepChart y = new MicrostepChart();
            y.state(0, kind);
            CHECK.due("7: one of kind " + kind, y.begin(), kind == 2 ? ILL : 0);
        }
    }

    private static void parallelNeedsAChild() {
        int[] depths = {0, 1, 14};
        for (int depth : depths) {
            MicrostepChart x = new MicrostepChart();
            for (int s = 1; s <= depth; s++) {
                x.state(s - 1, 1);
            }
            CHECK.due("7: whole before", x.begin(), depth == 0 ? ILL : 0);
            x.reset();
            CHECK.due("2: a parallel state", x.state(depth, 2), depth + 1);
            CHECK.due("7: a parallel state has no child, depth " + depth, x.begin(), ILL);
            CHECK.due("7: still building", x.outcome(), 0);
        }
        MicrostepChart y = new MicrostepChart();
        y.state(0, 1);
        y.state(0, 2);
        y.state(2, 4);
        y.state(2, 5);
        CHECK.due("7: histories are none", y.begin(), ILL);
        y.state(2, 1);
        CHECK.due("7: one is enough", y.begin(), 0);
        MicrostepChart z = new MicrostepChart();
        z.state(0, 2);
        z.state(1, 2);
        CHECK.due("7: the one inside has none", z.begin(), ILL);
        z.state(2, 1);
        CHECK.due("7: one inside one", z.begin(), 0);
        CHECK.due("7: active", z.active(), 2 + 4 + 8);
    }

    private static void parentOfAHistoryNeedsAChild() {
        for (int kind = 4; kind <= 5; kind++) {
            MicrostepChart x = new MicrostepChart();
            x.state(0, 1);
            x.state(0, 1);
            x.state(2, kind);
            CHECK.due("7: plain, parent of a history, no child", x.begin(), ILL);
            CHECK.due("2: another history", x.state(2, kind), 4);
            CHECK.due("7: two histories are no child", x.begin(), ILL);
            CHECK.due("2: a child, though final", x.state(2, 3), 5);
            CHECK.due("7: one is enough", x.begin(), 0);
        }
        MicrostepChart y = new MicrostepChart();
        y.state(0, 1);
        for (int s = 2; s <= 14; s++) {
            y.state(0, 1);
        }
        CHECK.due("2: the 15th, a history", y.state(14, 4), 15);
        CHECK.due("7: of the greatest parent", y.begin(), ILL);
    }

    private static void atomicStatesNeedNone() {
        MicrostepChart x = new MicrostepChart();
        x.state(0, 1);
        x.state(0, 3);
        x.state(0, 1);
        CHECK.due("7: plain and final ones without children", x.begin(), 0);
    }

    private static void dueFresh(String name, MicrostepChart x) {
        CHECK.due(name + ": going on", x.outcome(), 1);
        CHECK.due(name + ": active", x.active(), 2 + 8);
        CHECK.records(name, x, 1001, 1003);
        CHECK.waiting(name, x, 0, 0, 0);
        for (int v = 0; v <= 3; v++) {
            CHECK.due(name + ": variable " + v, x.variable(v), v == 0 ? 1 : 0);
        }
        CHECK.due(name + ": nothing remembered", x.remembered(Sample.DEEP), 0);
        CHECK.due(name + ": nothing remembered", x.remembered(Sample.SHALLOW), 0);
        CHECK.due(name + ": EMPTY", x.step(), EMPTY);
        CHECK.due(name + ": clock 0", x.tick(1), 1);
    }

    private static void beginAfterEachEnd() {
        MicrostepChart[] charts = {Sample.building(), Sample.goingOn(), Sample.finished(), Sample.outOfFuel(),
            Sample.outOfRoom()};
        for (int i = 0; i < charts.length; i++) {
            charts[i].tick(50);
            charts[i].reset();
            CHECK.due("7: after outcome " + i, charts[i].begin(), 0);
            dueFresh("7: after outcome " + i, charts[i]);
        }
        MicrostepChart x = Sample.goingOn();
        x.step();
        send(x, 2);
        send(x, 3);
        send(x, 4);
        x.tick(1);
        CHECK.due("14: remembered before", x.remembered(Sample.DEEP), 16);
        CHECK.due("14: remembered before", x.remembered(Sample.SHALLOW), 64 + 128);
        CHECK.due("15: set before", x.variable(3), MIN);
        x.reset();
        CHECK.due("7: after much", x.begin(), 0);
        dueFresh("7: after much", x);
    }

    /** A history that remembered in an earlier run has not remembered in this one. */
    private static void beginForgetsWhatWasRemembered() {
        for (int kind = 4; kind <= 5; kind++) {
            MicrostepChart x = new MicrostepChart();
            x.state(0, 1);
            x.state(0, 1);
            x.state(2, kind);
            x.state(2, 1);
            x.state(2, 1);
            x.transition(1, 1, 3);
            x.transition(4, 2, 5);
            x.transition(2, 3, 1);
            x.begin();
            send(x, 1);
            send(x, 2);
            send(x, 3);
            send(x, 1);
            CHECK.due("14: remembered in this run", x.active(), 4 + 32);
            x.reset();
            x.begin();
            CHECK.due("14: nothing", x.remembered(3), 0);
            send(x, 1);
            CHECK.due("14: not in this run", x.active(), 4 + 16);
        }
    }

    private static void beginCountsNoMicrostepForEntering() {
        MicrostepChart x = new MicrostepChart();
        x.state(0, 1);
        x.state(1, 1);
        CHECK.due("7: no microstep", x.begin(), 0);
        CHECK.records("7: no transition is recorded", x, 1001, 1002);
        x.reset();
        x.transition(2, 0, -1);
        x.guard(0, 0, 1, 0);
        x.action(0, 0, 0, 1);
        CHECK.due("7: one microstep", x.begin(), 1);
        CHECK.records("7: one", x, 1001, 1002, 3000);
    }

    private static void beginThatFinishesHasNoMacrostep() {
        MicrostepChart x = new MicrostepChart();
        x.state(0, 3);
        x.state(0, 1);
        for (int i = 0; i < 16; i++) {
            x.action(101, 2, 1, 0);
        }
        CHECK.due("7: no microstep", x.begin(), 0);
        CHECK.due("7: finished", x.outcome(), 2);
        CHECK.waiting("7: all 16 wait", x, 16, 0, 0);
        x.reset();
        x.initial(2);
        x.transition(2, 0, 1);
        CHECK.due("7: finished by a microstep", x.begin(), 1);
        CHECK.due("7: finished", x.outcome(), 2);
        CHECK.waiting("7: all 16 wait", x, 16, 0, 0);
    }

    private static void beginIsBadAfterItself() {
        MicrostepChart x = Sample.building();
        CHECK.due("7: begin", x.begin(), 0);
        CHECK.due("7: twice", x.begin(), BAD);
        CHECK.due("7: finished", Sample.finished().begin(), BAD);
        CHECK.due("7: out of fuel", Sample.outOfFuel().begin(), BAD);
        CHECK.due("7: out of room", Sample.outOfRoom().begin(), BAD);
        x.reset();
        CHECK.due("7: again", x.begin(), 0);
    }

    private static MicrostepChart listening() {
        MicrostepChart x = new MicrostepChart();
        x.state(0, 1);
        for (int t = 0; t < 20; t++) {
            x.transition(1, t + 1, -1);
        }
        x.begin();
        return x;
    }

    private static void postLeastAndGreatest() {
        MicrostepChart x = listening();
        for (int event : new int[] {MIN, -1, 0, 21, 22, 101, MAX}) {
            CHECK.due("8: event " + event, x.post(event), false);
        }
        CHECK.waiting("8: none", x, 0, 0, 0);
        CHECK.due("8: 1", x.post(1), true);
        CHECK.due("8: 20", x.post(20), true);
        CHECK.waiting("8: two", x, 0, 2, 0);
        x.step();
        CHECK.records("8: 1", x, 3000);
        x.step();
        CHECK.records("8: 20", x, 3019);
    }

    private static void postSixteen() {
        MicrostepChart x = listening();
        for (int i = 0; i < 16; i++) {
            CHECK.due("8: number " + i, x.post(20 - i), true);
        }
        CHECK.due("8: the 17th", x.post(1), false);
        CHECK.due("8: the 17th, bad", x.post(0), false);
        CHECK.due("8: the run goes on", x.outcome(), 1);
        for (int i = 0; i < 16; i++) {
            CHECK.due("9: taken", x.step(), 1);
            CHECK.records("9: in their order", x, 3019 - i);
        }
        CHECK.due("9: none left", x.step(), EMPTY);
    }

    private static void stepIsBadBeforeEmpty() {
        CHECK.due("9: new", new MicrostepChart().step(), BAD);
        CHECK.due("9: building", Sample.building().step(), BAD);
        MicrostepChart[] ended = {Sample.finished(), Sample.outOfFuel(), Sample.outOfRoom()};
        for (MicrostepChart x : ended) {
            CHECK.due("9: an event is there", x.waiting(1), 1);
            CHECK.due("9: ended", x.step(), BAD);
            CHECK.due("9: it stays", x.waiting(1), 1);
        }
        MicrostepChart x = new MicrostepChart();
        x.state(0, 3);
        x.begin();
        CHECK.due("9: finished, and the line is empty", x.step(), BAD);
    }

    private static void stepOnAnEmptyLine() {
        MicrostepChart x = new MicrostepChart();
        x.state(0, 1);
        x.action(101, 3, 1, 2);
        x.action(101, 0, 2, 5);
        x.begin();
        CHECK.due("9: EMPTY", x.step(), EMPTY);
        CHECK.records("9: the list stays", x, 1001);
        CHECK.waiting("9: sent ones stay", x, 0, 0, 1);
        CHECK.due("9: going on", x.outcome(), 1);
        CHECK.due("9: variables stay", x.variable(2), 5);
        x.tick(1);
        CHECK.due("9: sent, but not due", x.step(), EMPTY);
        x.tick(1);
        CHECK.due("9: now there is one", x.step(), 0);
        CHECK.due("9: and no more", x.step(), EMPTY);
    }

    private static void stepThatSelectsNothing() {
        MicrostepChart x = new MicrostepChart();
        x.state(0, 1);
        x.begin();
        CHECK.due("9: nothing", send(x, 1), 0);
        CHECK.records("9: the list is emptied", x);
        CHECK.waiting("9: the event is gone", x, 0, 0, 0);
        CHECK.due("9: active as before", x.active(), 2);
    }

    private static void stepThatFinishesHasNoMacrostep() {
        MicrostepChart x = new MicrostepChart();
        x.state(0, 1);
        x.state(0, 3);
        x.transition(1, 1, 2);
        x.action(0, 2, 5, 0);
        x.begin();
        x.post(1);
        x.post(1);
        CHECK.due("9: one", x.step(), 1);
        CHECK.due("9: finished", x.outcome(), 2);
        CHECK.waiting("9: both lines keep theirs", x, 1, 1, 0);
    }

    private static void tickLeastAndGreatest() {
        MicrostepChart x = listening();
        for (int n : new int[] {MIN, -50, -1, 0, 51, 52, MAX}) {
            CHECK.due("10: n " + n, x.tick(n), BAD);
        }
        CHECK.due("10: 1", x.tick(1), 1);
        CHECK.due("10: 50", x.tick(50), 51);
        CHECK.due("10: 49", x.tick(49), 100);
        CHECK.due("10: 2", x.tick(2), 102);
        CHECK.due("10: BAD does not move the clock", x.tick(51), BAD);
        CHECK.due("10: 1", x.tick(1), 103);
    }

    /** Event 1 sends the events 2, 3 .. with the delays given. */
    private static MicrostepChart sender(int... delays) {
        MicrostepChart x = new MicrostepChart();
        x.state(0, 1);
        for (int event = 1; event <= 14; event++) {
            x.transition(1, event, -1);
        }
        for (int i = 0; i < delays.length; i++) {
            x.action(0, 3, 2 + i, delays[i]);
        }
        x.begin();
        return x;
    }

    private static void dueEvents(MicrostepChart x, int... events) {
        for (int event : events) {
            CHECK.due("10: one", x.step(), 1);
            CHECK.records("10: event " + event, x, 3000 + event - 1);
        }
        CHECK.due("10: no more", x.step(), EMPTY);
    }

    private static void tickAtTheEdgeOfDue() {
        MicrostepChart x = sender(9, 10, 11);
        send(x, 1);
        x.tick(8);
        CHECK.waiting("10: none is due", x, 0, 0, 3);
        x.tick(2);
        CHECK.waiting("10: due at the clock or before", x, 0, 2, 1);
        dueEvents(x, 2, 3);
        x.tick(1);
        dueEvents(x, 4);
        MicrostepChart y = sender(1, 50);
        y.tick(7);
        send(y, 1);
        y.tick(1);
        dueEvents(y, 2);
        CHECK.due("10: clock", y.tick(48), 56);
        CHECK.due("10: not yet", y.step(), EMPTY);
        CHECK.due("10: clock", y.tick(1), 57);
        dueEvents(y, 3);
    }

    private static void tickByDueThenBySending() {
        MicrostepChart x = sender(12, 11, 10, 9, 8, 7, 6, 5, 4, 3, 2, 1);
        send(x, 1);
        x.tick(50);
        dueEvents(x, 13, 12, 11, 10, 9, 8, 7, 6, 5, 4, 3, 2);
        MicrostepChart y = sender(5, 5, 5, 5, 5, 5, 5, 5, 5, 5, 5, 5);
        send(y, 1);
        y.tick(5);
        dueEvents(y, 2, 3, 4, 5, 6, 7, 8, 9, 10, 11, 12, 13);
        MicrostepChart z = sender(6, 4, 2);
        send(z, 1);
        z.tick(2);
        dueEvents(z, 4);
        send(z, 1);
        z.tick(6);
        dueEvents(z, 3, 4, 2, 3, 2);
    }

    private static void tickFarBeyondDue() {
        MicrostepChart x = sender(3, 1, 2);
        send(x, 1);
        CHECK.due("10: clock", x.tick(50), 50);
        dueEvents(x, 3, 4, 2);
        CHECK.due("10: clock", x.tick(50), 100);
        CHECK.due("10: they came once", x.step(), EMPTY);
    }

    private static void tickAtTheGreatestClock() {
        MicrostepChart x = sender(50, 49, 1);
        for (int i = 1; i <= 450; i++) {
            CHECK.due("10: clock", x.tick(50), 50 * i);
        }
        send(x, 1);
        CHECK.due("10: clock", x.tick(49), 22549);
        dueEvents(x, 4, 3);
        CHECK.due("10: clock", x.tick(1), 22550);
        dueEvents(x, 2);
    }

    private static void dueBuilding(String name, MicrostepChart x) {
        CHECK.due(name + ": building", x.outcome(), 0);
        CHECK.due(name + ": no step", x.step(), BAD);
        CHECK.due(name + ": no tick", x.tick(1), BAD);
        CHECK.due(name + ": no post", x.post(1), false);
        CHECK.due(name + ": the chart as it is", x.state(0, 1), Sample.STATES + 1);
        CHECK.due(name + ": the chart as it is", x.transition(1, 1, -1), Sample.TRANSITIONS);
        CHECK.due(name + ": initial", x.initial(4), true);
        CHECK.due(name + ": guard", x.guard(0, 0, 0, 0), true);
        CHECK.due(name + ": action", x.action(0, 0, 0, 0), true);
        CHECK.due(name + ": begin", x.begin(), 0);
        CHECK.due(name + ": active", x.active(), 2 + 16);
    }

    private static void resetAtEachTime() {
        MicrostepChart[] charts = {Sample.building(), Sample.goingOn(), Sample.finished(), Sample.outOfFuel(),
            Sample.outOfRoom(), Sample.afterReset()};
        for (int i = 0; i < charts.length; i++) {
            CHECK.due("11: outcome before", charts[i].outcome(), i == 5 ? 0 : i);
            charts[i].reset();
            dueBuilding("11: after outcome " + i, charts[i]);
        }
        MicrostepChart x = new MicrostepChart();
        x.reset();
        CHECK.due("11: nothing was built", x.begin(), ILL);
        CHECK.due("11: the first state", x.state(0, 1), 1);
    }

    private static void resetTwice() {
        MicrostepChart x = Sample.goingOn();
        x.reset();
        x.reset();
        dueBuilding("11: twice", x);
    }

    private static void seeStep(StringBuilder seen, MicrostepChart x) {
        seen.append(' ').append(x.step()).append(' ').append(x.active());
        int listed = 0;
        for (int place = 0; listed != -1; place++) {
            listed = x.listed(place);
            seen.append(' ').append(listed);
        }
    }

    /** What is seen of a run of the sample, from its begin to its end; a step that finds no event is seen as well. */
    private static String wholeRun(MicrostepChart x) {
        StringBuilder seen = new StringBuilder();
        seen.append(x.begin());
        for (int event : new int[] {1, 1, 1, 2, 3, 4, 4, 5}) {
            seen.append(' ').append(x.post(event)).append(' ').append(x.tick(1));
            seeStep(seen, x);
            seeStep(seen, x);
        }
        for (int i = 0; i <= 3; i++) {
            seen.append(' ').append(x.variable(i)).append(' ').append(x.waiting(i));
        }
        return seen.append(' ').append(x.remembered(Sample.DEEP)).append(' ').append(x.outcome()).toString();
    }

    private static void resetKeepsTheWholeChart() {
        String due = wholeRun(Sample.building());
        MicrostepChart[] charts = {Sample.building(), Sample.goingOn(), Sample.finished(), Sample.outOfFuel(),
            Sample.outOfRoom(), Sample.afterReset()};
        for (MicrostepChart x : charts) {
            x.reset();
            String got = wholeRun(x);
            CHECK.due("11: as if it were the first run: " + got + ", due is " + due, got.equals(due), true);
        }
        CHECK.due("11: all of it was run", due.endsWith(" 2"), true);
        for (int t : new int[] {0, 1, 2, 3, 6, 7, 8}) {
            CHECK.due("11: transition " + t + " was taken", due.contains(" " + (3000 + t) + " "), true);
        }
    }

    private static void resetKeepsGuardsAndInitials() {
        MicrostepChart x = new MicrostepChart();
        x.state(0, 1);
        x.state(0, 1);
        x.initial(2);
        x.transition(2, 1, -1);
        x.guard(0, 0, 1, 7);
        for (int round = 0; round < 3; round++) {
            x.begin();
            CHECK.due("11: the initial child that was named", x.active(), 4);
            CHECK.due("11: the guard does not hold", send(x, 1), 0);
            x.reset();
        }
        x.action(102, 0, 0, 7);
        x.begin();
        CHECK.due("11: now it holds", send(x, 1), 1);
    }

    /** The last call of the 512 is as good as the first: 4 to build and begin, 126 rounds of 4, and 4 more. */
    private static void fiveHundredAndTwelveCalls() {
        MicrostepChart x = new MicrostepChart();
        x.state(0, 1);
        x.transition(1, 20, -1);
        x.action(0, 1, 3, 1);
        x.begin();
        for (int i = 1; i <= 126; i++) {
            CHECK.due("post", x.post(20), true);
            CHECK.due("step", x.step(), 1);
            CHECK.due("tick", x.tick(50), 50 * i);
            CHECK.due("variable", x.variable(3), i);
        }
        CHECK.due("call 509", x.post(20), true);
        CHECK.due("call 510", x.step(), 1);
        CHECK.due("call 511", x.listed(0), 3000);
        CHECK.due("call 512", x.variable(3), 127);
    }
}

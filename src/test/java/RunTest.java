/** Promises 7 to 11: begin, post, step, tick, reset. */
public final class RunTest {
    private static final int MIN = Integer.MIN_VALUE;
    private static final int MAX = Integer.MAX_VALUE;
    private static final Check CHECK = new Check();

    public static void main(String[] args) {
        beginRefusesWhatIsNotWhole();
        beginEntersDownwards();
        beginGoesOnByItself();
        beginMayFinish();
        beginMayFail();
        beginStartsAnew();
        postOrderAndLimit();
        stepTakesOneEvent();
        stepEndsWhenFinished();
        tickOrder();
        tickRefusals();
        tickWithoutRoom();
        tickWithJustEnoughRoom();
        resetFromEverywhere();
        CHECK.end("RunTest");
    }

    private static void beginRefusesWhatIsNotWhole() {
        MicrostepChart x = new MicrostepChart();
        CHECK.due("7: no state", x.begin(), MicrostepChart.ILL);
        CHECK.due("7: still building", x.outcome(), 0);
        x.state(0, 1);
        x.state(0, 2);
        CHECK.due("7: parallel without child, though never entered", x.begin(), MicrostepChart.ILL);
        x.state(2, 4);
        CHECK.due("7: a history is no child", x.begin(), MicrostepChart.ILL);
        x.state(2, 1);
        CHECK.due("7: whole", x.begin(), 0);
        x.reset();
        x.state(4, 5);
        CHECK.due("7: plain with a history alone", x.begin(), MicrostepChart.ILL);
        CHECK.due("7: still building", x.outcome(), 0);
        x.state(4, 3);
        CHECK.due("7: whole again", x.begin(), 0);
        CHECK.due("7: twice", x.begin(), MicrostepChart.BAD);
        CHECK.due("7: twice, the run goes on", x.outcome(), 1);
    }

    private static void beginEntersDownwards() {
        MicrostepChart x = new MicrostepChart();
        x.state(0, 1);
        x.state(0, 2);
        x.state(2, 1);
        x.state(2, 2);
        x.state(3, 1);
        x.state(4, 1);
        x.state(4, 1);
        x.state(3, 1);
        x.state(7, 1);
        x.initial(2);
        x.initial(8);
        x.action(102, 1, 0, 1);
        x.action(109, 0, 1, 4);
        CHECK.due("7: no microstep", x.begin(), 0);
        CHECK.records("7", x, 1002, 1003, 1004, 1006, 1007, 1008, 1009);
        CHECK.due("7: active", x.active(), 4 + 8 + 16 + 64 + 128 + 256 + 512);
        CHECK.due("7: entry action", x.variable(0), 1);
        CHECK.due("7: entry action", x.variable(1), 4);
    }

    private static void beginGoesOnByItself() {
        MicrostepChart x = new MicrostepChart();
        x.state(0, 1);
        x.state(0, 1);
        x.state(0, 1);
        x.transition(1, 0, 2);
        x.transition(2, 7, 3);
        x.action(101, 2, 7, 0);
        x.action(101, 2, 8, 0);
        CHECK.due("7: microsteps of the macrostep", x.begin(), 2);
        CHECK.records("7", x, 1001, 2001, 3000, 1002, 2002, 3001, 1003);
        CHECK.waiting("7: events for which nothing is selected are used up", x, 0, 0, 0);
    }

    private static void beginMayFinish() {
        MicrostepChart x = new MicrostepChart();
        x.state(0, 3);
        x.action(101, 2, 1, 0);
        CHECK.due("7: final at once", x.begin(), 0);
        CHECK.due("7: finished", x.outcome(), 2);
        CHECK.due("7: active", x.active(), 2);
        CHECK.waiting("7: no macrostep, and no done event of 0", x, 1, 0, 0);
        CHECK.records("7", x, 1001);
        CHECK.due("7: BAD when finished", x.begin(), MicrostepChart.BAD);
        x.reset();
        x.begin();
        CHECK.waiting("7: what waited before is gone", x, 1, 0, 0);
    }

    private static void beginMayFail() {
        MicrostepChart x = new MicrostepChart();
        x.state(0, 1);
        x.state(1, 1);
        for (int i = 0; i < 17; i++) {
            x.action(101, 2, 1 + i, 0);
        }
        x.action(101, 0, 0, 1);
        CHECK.due("7: failed while entering", x.begin(), 0);
        CHECK.due("7: for want of room", x.outcome(), 4);
        CHECK.due("7: state 1 was active already", x.active(), 2);
        CHECK.records("7", x, 1001);
        CHECK.waiting("7", x, 16, 0, 0);
        CHECK.due("7: nothing further was done", x.variable(0), 0);
        CHECK.due("7: BAD when failed", x.begin(), MicrostepChart.BAD);
    }

    private static void beginStartsAnew() {
        MicrostepChart x = new MicrostepChart();
        x.state(0, 1);
        x.state(0, 1);
        x.state(1, 4);
        x.state(1, 1);
        x.transition(1, 1, 2);
        x.action(0, 0, 3, 9);
        x.action(0, 3, 5, 9);
        x.begin();
        x.post(1);
        x.post(6);
        x.step();
        x.tick(8);
        CHECK.due("7: before", x.variable(3), 9);
        CHECK.due("7: before", x.remembered(3), 16);
        CHECK.waiting("7: before", x, 0, 1, 1);
        x.reset();
        x.begin();
        CHECK.due("7: variables 0", x.variable(3), 0);
        CHECK.due("7: nothing remembered", x.remembered(3), 0);
        CHECK.waiting("7: lines empty", x, 0, 0, 0);
        CHECK.due("7: active", x.active(), 2 + 16);
        CHECK.records("7", x, 1001, 1004);
        CHECK.due("7: clock 0", x.tick(1), 1);
        CHECK.due("7: EMPTY", x.step(), MicrostepChart.EMPTY);
    }

    private static void postOrderAndLimit() {
        MicrostepChart x = new MicrostepChart();
        CHECK.due("8: while building", x.post(1), false);
        x.state(0, 1);
        x.transition(1, 1, -1);
        x.transition(1, 20, -1);
        x.begin();
        for (int event : new int[] {0, -1, 21, 101, MIN, MAX}) {
            CHECK.due("8: event " + event, x.post(event), false);
        }
        CHECK.waiting("8: nothing came", x, 0, 0, 0);
        CHECK.due("8: 20", x.post(20), true);
        CHECK.due("8: 1", x.post(1), true);
        for (int i = 2; i < 16; i++) {
            CHECK.due("8: post", x.post(2), true);
        }
        CHECK.waiting("8: full", x, 0, 16, 0);
        CHECK.due("8: a 17th", x.post(1), false);
        CHECK.due("8: the run does not fail", x.outcome(), 1);
        x.step();
        CHECK.records("8: first come", x, 3001);
        CHECK.due("8: room again", x.post(1), true);
        x.step();
        CHECK.records("8: first served", x, 3000);
        for (int i = 2; i < 16; i++) {
            CHECK.due("8: nothing selected", x.step(), 0);
        }
        CHECK.due("8: the last one", x.step(), 1);
        CHECK.due("8: no more", x.step(), MicrostepChart.EMPTY);
    }

    private static void stepTakesOneEvent() {
        MicrostepChart x = new MicrostepChart();
        CHECK.due("9: while building", x.step(), MicrostepChart.BAD);
        x.state(0, 1);
        x.state(0, 1);
        x.state(0, 1);
        x.transition(1, 1, 2);
        x.transition(2, 2, 3);
        x.transition(3, 0, 1);
        x.guard(2, 0, 1, 0);
        x.action(0, 2, 9, 0);
        x.action(0, 2, 2, 0);
        x.action(0, 3, 1, 0);
        x.begin();
        CHECK.due("9: EMPTY", x.step(), MicrostepChart.EMPTY);
        CHECK.records("9: EMPTY leaves the list", x, 1001);
        x.post(1);
        CHECK.due("9: three microsteps", x.step(), 3);
        CHECK.records("9", x, 2001, 3000, 1002, 2002, 3001, 1003, 2003, 3002, 1001);
        CHECK.waiting("9: SEND with 0 goes to the external line", x, 0, 1, 0);
        x.post(5);
        CHECK.due("9: what was sent comes first", x.step(), 3);
        CHECK.due("9: an event for which nothing is selected", x.step(), 0);
        CHECK.records("9: it empties the list too", x);
    }

    private static void stepEndsWhenFinished() {
        MicrostepChart x = new MicrostepChart();
        x.state(0, 1);
        x.state(0, 3);
        x.transition(1, 1, 2);
        x.action(0, 2, 3, 0);
        x.begin();
        x.post(1);
        x.post(2);
        CHECK.due("9: one microstep", x.step(), 1);
        CHECK.due("9: finished", x.outcome(), 2);
        CHECK.waiting("9: what waits stays", x, 1, 1, 0);
        CHECK.due("9: BAD when finished", x.step(), MicrostepChart.BAD);
        CHECK.due("8: false when finished", x.post(1), false);
        CHECK.due("10: BAD when finished", x.tick(1), MicrostepChart.BAD);
        CHECK.records("9: and nothing changed", x, 2001, 3000, 1002);
    }

    /** A chart that sends events 2 to 6 with the delays given when event 1 comes, and records which one comes. */
    private static MicrostepChart sender(int... delays) {
        MicrostepChart x = new MicrostepChart();
        x.state(0, 1);
        for (int event = 1; event <= 12; event++) {
            x.transition(1, event, -1);
        }
        for (int i = 0; i < delays.length; i++) {
            x.action(0, 3, 2 + i, delays[i]);
        }
        x.begin();
        return x;
    }

    private static void dueNext(MicrostepChart x, int event) {
        CHECK.due("10: step", x.step(), 1);
        CHECK.due("10: event " + event, x.listed(0), 3000 + event - 1);
    }

    private static void tickOrder() {
        MicrostepChart x = sender(7, 3, 7, 50, 1);
        x.post(1);
        x.step();
        CHECK.waiting("10", x, 0, 0, 5);
        CHECK.due("10: clock", x.tick(2), 2);
        CHECK.waiting("10: one was due before the clock", x, 0, 1, 4);
        dueNext(x, 6);
        x.post(8);
        CHECK.due("10: clock", x.tick(5), 7);
        CHECK.waiting("10: behind the posted one", x, 0, 4, 1);
        dueNext(x, 8);
        dueNext(x, 3);
        dueNext(x, 2);
        dueNext(x, 4);
        CHECK.due("10: a tick before", x.tick(42), 49);
        CHECK.waiting("10: not yet", x, 0, 0, 1);
        CHECK.due("10: due at the clock", x.tick(1), 50);
        CHECK.waiting("10: now", x, 0, 1, 0);
        dueNext(x, 5);
        x.post(1);
        x.step();
        CHECK.due("10: due counts from the clock of sending", x.tick(3), 53);
        CHECK.waiting("10: two of five", x, 0, 2, 3);
        dueNext(x, 6);
        dueNext(x, 3);
        x.post(1);
        x.step();
        CHECK.due("10: older ones that are due later", x.tick(4), 57);
        dueNext(x, 6);
        dueNext(x, 3);
        dueNext(x, 2);
        dueNext(x, 4);
        CHECK.due("10: empty", x.step(), MicrostepChart.EMPTY);
    }

    private static void tickRefusals() {
        MicrostepChart x = new MicrostepChart();
        x.state(0, 1);
        CHECK.due("10: while building", x.tick(1), MicrostepChart.BAD);
        x.begin();
        for (int n : new int[] {0, -1, 51, MIN, MAX}) {
            CHECK.due("10: n " + n, x.tick(n), MicrostepChart.BAD);
        }
        CHECK.due("10: 50", x.tick(50), 50);
        CHECK.due("10: 1", x.tick(1), 51);
        CHECK.due("10: list untouched", x.listed(0), 1001);
    }

    private static void tickWithoutRoom() {
        MicrostepChart x = sender(5, 4, 4, 6);
        x.post(1);
        x.step();
        for (int i = 0; i < 14; i++) {
            x.post(12);
        }
        CHECK.due("10: the clock, also then", x.tick(5), 5);
        CHECK.due("10: failed", x.outcome(), 4);
        CHECK.waiting("10: the first without room stays", x, 0, 16, 2);
        CHECK.due("10: BAD when failed", x.tick(1), MicrostepChart.BAD);
        CHECK.due("9: BAD when failed", x.step(), MicrostepChart.BAD);
        CHECK.due("8: false when failed", x.post(1), false);
    }

    private static void tickWithJustEnoughRoom() {
        MicrostepChart x = sender(5, 4, 4, 6);
        x.post(1);
        x.step();
        for (int i = 0; i < 13; i++) {
            x.post(12);
        }
        CHECK.due("10: clock", x.tick(5), 5);
        CHECK.due("10: going on", x.outcome(), 1);
        CHECK.waiting("10: just enough", x, 0, 16, 1);
    }

    private static void resetFromEverywhere() {
        MicrostepChart x = new MicrostepChart();
        x.reset();
        CHECK.due("11: while building", x.outcome(), 0);
        x.state(0, 1);
        x.state(0, 3);
        x.transition(1, 1, 2);
        x.transition(1, 2, -1);
        x.action(1, 2, 2, 0);
        x.reset();
        CHECK.due("11: the chart stays", x.begin(), 0);
        x.reset();
        CHECK.due("11: while going on", x.outcome(), 0);
        CHECK.due("11: the run is over", x.step(), MicrostepChart.BAD);
        x.begin();
        x.post(1);
        x.step();
        CHECK.due("11: finished", x.outcome(), 2);
        x.reset();
        CHECK.due("11: when finished", x.outcome(), 0);
        x.begin();
        CHECK.due("11: going on again", x.outcome(), 1);
        x.post(2);
        CHECK.due("11: fuel", x.step(), 30);
        CHECK.due("11: failed", x.outcome(), 3);
        x.reset();
        CHECK.due("11: when failed", x.outcome(), 0);
        CHECK.due("11: the chart as it is", x.state(0, 1), 3);
        CHECK.due("11: the chart as it is", x.transition(3, 1, 1), 2);
        CHECK.due("11: runs again", x.begin(), 0);
        CHECK.due("11: microsteps count anew", x.outcome(), 1);
    }
}

/** Promises 12 to 17: outcome, active, remembered, variable, listed, waiting. */
public final class AnswersTest {
    private static final int MIN = Integer.MIN_VALUE;
    private static final int MAX = Integer.MAX_VALUE;
    private static final Check CHECK = new Check();

    public static void main(String[] args) {
        whileBuilding();
        afterReset();
        outcomes();
        activeStates();
        rememberedStates();
        variables();
        records();
        waitingEvents();
        CHECK.end("AnswersTest");
    }

    /** Two states with everything going on: a variable, a memory, records, and events of all three sorts. */
    private static MicrostepChart busy() {
        MicrostepChart x = new MicrostepChart();
        x.state(0, 1);
        x.state(0, 3);
        x.state(1, 1);
        x.state(1, 4);
        x.transition(3, 1, 2);
        x.action(0, 0, 1, 6);
        x.action(0, 2, 2, 0);
        x.action(0, 2, 3, 0);
        x.action(0, 3, 4, 0);
        x.action(0, 3, 5, 1);
        x.action(0, 3, 6, 2);
        x.action(0, 3, 7, 3);
        x.begin();
        x.post(1);
        x.step();
        return x;
    }

    private static void dueNothing(String where, MicrostepChart x) {
        CHECK.due(where + ": outcome", x.outcome(), 0);
        CHECK.due(where + ": active", x.active(), 0);
        for (int i : new int[] {-1, 0, 1, 2, 3, 4, 5, 16, MIN, MAX}) {
            CHECK.due(where + ": remembered " + i, x.remembered(i), 0);
            CHECK.due(where + ": variable " + i, x.variable(i), 0);
            CHECK.due(where + ": listed " + i, x.listed(i), -1);
            CHECK.due(where + ": waiting " + i, x.waiting(i), i >= 0 && i <= 2 ? 0 : -1);
        }
    }

    private static void whileBuilding() {
        dueNothing("new", new MicrostepChart());
    }

    private static void afterReset() {
        MicrostepChart x = busy();
        CHECK.due("12: finished", x.outcome(), 2);
        CHECK.due("13: active", x.active(), 4);
        CHECK.due("14: remembered", x.remembered(4), 8);
        CHECK.due("15: variable", x.variable(1), 6);
        CHECK.records("16", x, 2003, 2001, 3000, 1002);
        CHECK.waiting("17", x, 2, 1, 3);
        x.reset();
        dueNothing("after reset", x);
    }

    private static void outcomes() {
        MicrostepChart x = new MicrostepChart();
        CHECK.due("12: building", x.outcome(), 0);
        x.state(0, 1);
        x.state(0, 3);
        x.transition(1, 1, 2);
        x.transition(1, 2, -1);
        x.transition(1, 3, -1);
        x.action(1, 2, 2, 0);
        for (int i = 0; i < 17; i++) {
            x.action(2, 2, 4, 0);
        }
        for (int event = 1; event <= 3; event++) {
            x.begin();
            CHECK.due("12: going on", x.outcome(), 1);
            x.post(event);
            CHECK.due("12: going on", x.outcome(), 1);
            x.step();
            CHECK.due("12: ended by event " + event, x.outcome(), event + 1);
            x.reset();
            CHECK.due("12: building", x.outcome(), 0);
        }
    }

    private static void activeStates() {
        MicrostepChart x = new MicrostepChart();
        x.state(0, 1);
        for (int s = 2; s <= 15; s++) {
            x.state(s - 1, 1);
        }
        x.begin();
        CHECK.due("13: all but 0", x.active(), 65534);
        MicrostepChart y = new MicrostepChart();
        y.state(0, 2);
        y.state(1, 4);
        y.state(1, 1);
        y.state(1, 1);
        y.begin();
        CHECK.due("13: no histories", y.active(), 2 + 8 + 16);
    }

    private static void rememberedStates() {
        MicrostepChart x = new MicrostepChart();
        x.state(0, 1);
        x.state(1, 5);
        x.state(1, 4);
        x.state(1, 1);
        x.state(1, 1);
        x.state(5, 1);
        x.state(5, 1);
        x.state(0, 1);
        x.initial(5);
        x.transition(1, 1, 8);
        x.begin();
        CHECK.due("14: nothing yet", x.remembered(2), 0);
        x.post(1);
        x.step();
        CHECK.due("14: deep, the atomic ones", x.remembered(2), 64);
        CHECK.due("14: shallow, the children", x.remembered(3), 32);
        for (int s : new int[] {0, -1, 1, 4, 5, 8, 9, 15, 16, MIN, MAX}) {
            CHECK.due("14: no history " + s, x.remembered(s), 0);
        }
    }

    private static void variables() {
        MicrostepChart x = new MicrostepChart();
        x.state(0, 1);
        for (int v = 0; v < 4; v++) {
            x.action(101, 0, v, v == 3 ? MIN : 10 + v);
        }
        x.begin();
        CHECK.due("15: 0", x.variable(0), 10);
        CHECK.due("15: 1", x.variable(1), 11);
        CHECK.due("15: 2", x.variable(2), 12);
        CHECK.due("15: 3", x.variable(3), MIN);
        for (int v : new int[] {-1, 4, MIN, MAX}) {
            CHECK.due("15: no variable " + v, x.variable(v), 0);
        }
    }

    private static void records() {
        MicrostepChart x = new MicrostepChart();
        x.state(0, 1);
        x.begin();
        CHECK.due("16: 0", x.listed(0), 1001);
        for (int place : new int[] {1, -1, 199, 200, MIN, MAX}) {
            CHECK.due("16: no place " + place, x.listed(place), -1);
        }
    }

    private static void waitingEvents() {
        MicrostepChart x = busy();
        for (int which : new int[] {-1, 3, MIN, MAX}) {
            CHECK.due("17: which " + which, x.waiting(which), -1);
        }
        CHECK.waiting("17", x, 2, 1, 3);
    }
}

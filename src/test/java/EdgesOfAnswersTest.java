/** Promises 12 to 17 at their edges. */
public final class EdgesOfAnswersTest {
    private static final int MIN = Integer.MIN_VALUE;
    private static final int MAX = Integer.MAX_VALUE;
    private static final int[] NUMBERS = {MIN, MIN + 1, -33, -2, -1, 0, 1, 2, 3, 4, 5, 15, 16, 17, 31, 32, 33, 199, 200,
        201, MAX - 1, MAX};
    private static final Check CHECK = new Check();

    public static void main(String[] args) {
        whileBuilding();
        outcomeOfEachTime();
        activeLeastAndGreatest();
        activeAfterTheEnd();
        rememberedLeastAndGreatest();
        rememberedByNoHistory();
        rememberedNothingYet();
        rememberedLeastAndGreatestState();
        variableLeastAndGreatest();
        variableWraps();
        variableAfterTheEnd();
        listedLeastAndGreatest();
        listedNumbers();
        listedTwoHundred();
        listedAfterTheEnd();
        waitingLeastAndGreatest();
        waitingFull();
        askingChangesNothing();
        CHECK.end("EdgesOfAnswersTest");
    }

    private static int send(MicrostepChart x, int event) {
        CHECK.due("post " + event, x.post(event), true);
        return x.step();
    }

    private static void whileBuilding() {
        MicrostepChart[] charts = {new MicrostepChart(), Sample.building(), Sample.goingOn(), Sample.finished(),
            Sample.outOfFuel(), Sample.outOfRoom()};
        for (MicrostepChart x : charts) {
            x.reset();
            CHECK.due("12: building", x.outcome(), 0);
            CHECK.due("13: building", x.active(), 0);
            for (int i : NUMBERS) {
                CHECK.due("14: building " + i, x.remembered(i), 0);
                CHECK.due("15: building " + i, x.variable(i), 0);
                CHECK.due("16: building " + i, x.listed(i), -1);
                CHECK.due("17: building " + i, x.waiting(i), i >= 0 && i <= 2 ? 0 : -1);
            }
            for (int s = 1; s <= 15; s++) {
                CHECK.due("14: building " + s, x.remembered(s), 0);
            }
        }
    }

    private static void outcomeOfEachTime() {
        CHECK.due("12: new", new MicrostepChart().outcome(), 0);
        CHECK.due("12: building", Sample.building().outcome(), 0);
        CHECK.due("12: going on", Sample.goingOn().outcome(), 1);
        CHECK.due("12: finished", Sample.finished().outcome(), 2);
        CHECK.due("12: for want of fuel", Sample.outOfFuel().outcome(), 3);
        CHECK.due("12: for want of room", Sample.outOfRoom().outcome(), 4);
        CHECK.due("12: after reset", Sample.afterReset().outcome(), 0);
        MicrostepChart x = new MicrostepChart();
        x.begin();
        CHECK.due("12: still building when begin answers ILL", x.outcome(), 0);
    }

    private static void activeLeastAndGreatest() {
        for (int initial : new int[] {1, 2, 14, 15}) {
            MicrostepChart x = new MicrostepChart();
            for (int s = 1; s <= 15; s++) {
                x.state(0, 1);
            }
            x.initial(initial);
            x.begin();
            CHECK.due("13: state " + initial, x.active(), 1 << initial);
        }
        MicrostepChart y = new MicrostepChart();
        y.state(0, 2);
        for (int s = 2; s <= 15; s++) {
            y.state(1, 1);
        }
        y.begin();
        CHECK.due("13: all but 0", y.active(), 0xFFFE);
    }

    private static void activeAfterTheEnd() {
        CHECK.due("13: finished", Sample.finished().active(), 1 << 11);
        CHECK.due("13: out of fuel", Sample.outOfFuel().active(), 2 + 8);
        CHECK.due("13: out of room", Sample.outOfRoom().active(), 2 + 8);
    }

    /** Histories with the least and the greatest number that they can have. */
    private static void rememberedLeastAndGreatest() {
        MicrostepChart x = new MicrostepChart();
        x.state(0, 1);
        CHECK.due("2: the least history", x.state(1, 4), 2);
        x.state(1, 1);
        for (int s = 4; s <= 14; s++) {
            x.state(0, 1);
        }
        CHECK.due("2: the greatest history", x.state(1, 5), 15);
        x.transition(1, 1, 4);
        x.begin();
        send(x, 1);
        CHECK.due("14: the least", x.remembered(2), 8);
        CHECK.due("14: the greatest", x.remembered(15), 8);
        for (int i : new int[] {MIN, -30, -17, -1, 0, 16, 17, 18, 31, 34, 47, MAX}) {
            CHECK.due("14: " + i + " is none", x.remembered(i), 0);
        }
    }

    private static void rememberedByNoHistory() {
        MicrostepChart x = Sample.goingOn();
        x.step();
        send(x, 2);
        send(x, 4);
        for (int s = 0; s <= 15; s++) {
            int want = s == Sample.DEEP ? 16 : s == Sample.SHALLOW ? 64 + 128 : 0;
            CHECK.due("14: state " + s, x.remembered(s), want);
        }
    }

    private static void rememberedNothingYet() {
        MicrostepChart x = Sample.goingOn();
        CHECK.due("14: nothing yet, deep", x.remembered(Sample.DEEP), 0);
        CHECK.due("14: nothing yet, shallow", x.remembered(Sample.SHALLOW), 0);
        x.step();
        send(x, 2);
        CHECK.due("14: its parent was left", x.remembered(Sample.DEEP), 16);
        CHECK.due("14: its parent was not left", x.remembered(Sample.SHALLOW), 0);
    }

    private static void rememberedLeastAndGreatestState() {
        MicrostepChart x = new MicrostepChart();
        x.state(0, 2);
        x.state(1, 1);
        x.state(1, 4);
        x.state(1, 5);
        for (int s = 5; s <= 14; s++) {
            x.state(s == 5 ? 1 : s - 1, 1);
        }
        CHECK.due("2: the deepest one", x.state(14, 1), 15);
        x.transition(1, 1, 1);
        x.begin();
        send(x, 1);
        CHECK.due("14: shallow, the children", x.remembered(3), 4 + 32);
        CHECK.due("14: deep, the atomic ones", x.remembered(4), 4 + (1 << 15));
    }

    private static void variableLeastAndGreatest() {
        MicrostepChart x = new MicrostepChart();
        x.state(0, 1);
        for (int v = 0; v <= 3; v++) {
            x.action(101, 0, v, 10 + v);
        }
        x.begin();
        for (int v = 0; v <= 3; v++) {
            CHECK.due("15: variable " + v, x.variable(v), 10 + v);
        }
        for (int v : new int[] {MIN, -4, -1, 4, 5, 32, MAX}) {
            CHECK.due("15: there is no " + v, x.variable(v), 0);
        }
    }

    private static void dueSum(int set, int added, int want) {
        MicrostepChart x = new MicrostepChart();
        x.state(0, 1);
        x.action(101, 0, 2, set);
        x.action(101, 1, 2, added);
        x.begin();
        CHECK.due("15: " + set + " and " + added, x.variable(2), want);
    }

    private static void variableWraps() {
        dueSum(MAX, 1, MIN);
        dueSum(MIN, -1, MAX);
        dueSum(MIN, MIN, 0);
        dueSum(MAX, MAX, -2);
        dueSum(MAX, MIN, -1);
        dueSum(MAX, 0, MAX);
        dueSum(MIN, 0, MIN);
        dueSum(0, MIN, MIN);
        dueSum(0, MAX, MAX);
        dueSum(MAX - 1, 1, MAX);
        dueSum(MIN + 1, -1, MIN);
    }

    private static void variableAfterTheEnd() {
        CHECK.due("15: finished", Sample.finished().variable(0), 1);
        CHECK.due("15: out of fuel", Sample.outOfFuel().variable(0), 1);
        CHECK.due("15: out of room", Sample.outOfRoom().variable(0), 1);
    }

    private static void listedLeastAndGreatest() {
        MicrostepChart x = new MicrostepChart();
        x.state(0, 1);
        x.state(1, 1);
        x.state(2, 1);
        x.begin();
        CHECK.due("16: the first place", x.listed(0), 1001);
        CHECK.due("16: the last place", x.listed(2), 1003);
        for (int place : new int[] {MIN, -3, -1, 3, 4, 199, 200, 201, MAX}) {
            CHECK.due("16: there is none at " + place, x.listed(place), -1);
        }
        send(x, 1);
        CHECK.due("16: an empty list", x.listed(0), -1);
        CHECK.due("16: an empty list", x.listed(-1), -1);
    }

    private static void listedNumbers() {
        MicrostepChart x = new MicrostepChart();
        for (int s = 1; s <= 15; s++) {
            x.state(0, 1);
        }
        for (int t = 0; t < 19; t++) {
            x.transition(1, 1, 15);
        }
        x.transition(15, 1, 1);
        x.begin();
        CHECK.records("16: state 1 entered", x, 1001);
        send(x, 1);
        CHECK.records("16: 1 left, the least transition, 15 entered", x, 2001, 3000, 1015);
        send(x, 1);
        CHECK.records("16: 15 left, the greatest transition, 1 entered", x, 2015, 3019, 1001);
    }

    private static void listedTwoHundred() {
        MicrostepChart x = new MicrostepChart();
        for (int s = 1; s <= 10; s++) {
            x.state(s - 1, 1);
        }
        x.transition(1, 0, 1);
        CHECK.due("7: ten microsteps are begun", x.begin(), 10);
        CHECK.due("12: no room", x.outcome(), 4);
        for (int place = 0; place < 200; place++) {
            int at = place < 10 ? 0 : (place - 10) % 21;
            int due = place < 10 ? 1001 + place : at < 10 ? 2010 - at : at == 10 ? 3000 : 1000 + at - 10;
            CHECK.due("16: place " + place, x.listed(place), due);
        }
        for (int place : new int[] {MIN, -1, 200, 201, 256, MAX}) {
            CHECK.due("16: there is none at " + place, x.listed(place), -1);
        }
    }

    private static void listedAfterTheEnd() {
        MicrostepChart x = Sample.finished();
        CHECK.records("16: finished", x, 2003, 2001, 3003, 1011);
        MicrostepChart y = Sample.outOfRoom();
        CHECK.due("16: out of room", y.listed(15), 3005);
        CHECK.due("16: out of room", y.listed(16), -1);
        MicrostepChart z = Sample.outOfFuel();
        CHECK.due("16: out of fuel", z.listed(29), 3004);
        CHECK.due("16: out of fuel", z.listed(30), -1);
    }

    private static void waitingLeastAndGreatest() {
        MicrostepChart[] charts = {Sample.goingOn(), Sample.finished(), Sample.outOfFuel(), Sample.outOfRoom()};
        for (MicrostepChart x : charts) {
            for (int which : new int[] {MIN, -2, -1, 3, 4, 32, MAX}) {
                CHECK.due("17: which " + which, x.waiting(which), -1);
            }
        }
        CHECK.waiting("17: going on", charts[0], 0, 1, 1);
        CHECK.waiting("17: finished", charts[1], 1, 1, 1);
        CHECK.waiting("17: out of fuel", charts[2], 0, 1, 0);
        CHECK.waiting("17: out of room", charts[3], 16, 1, 0);
    }

    /** All there is room for at once: 12 sent and 16 external ones, and 16 raised when the run is finished. */
    private static void waitingFull() {
        MicrostepChart x = new MicrostepChart();
        x.state(0, 1);
        x.state(0, 3);
        x.transition(1, 1, -1);
        x.transition(1, 2, 2);
        for (int i = 0; i < 12; i++) {
            x.action(0, 3, 3, 50);
        }
        for (int i = 0; i < 16; i++) {
            x.action(1, 2, 3, 0);
        }
        x.action(1, 3, 3, 0);
        x.begin();
        CHECK.waiting("17: none", x, 0, 0, 0);
        send(x, 1);
        x.post(2);
        for (int i = 1; i < 16; i++) {
            x.post(3);
        }
        CHECK.waiting("17: 16 and 12", x, 0, 16, 12);
        CHECK.due("9: one", x.step(), 1);
        CHECK.due("12: finished", x.outcome(), 2);
        CHECK.waiting("17: all full", x, 16, 16, 12);
    }

    private static void askingChangesNothing() {
        MicrostepChart x = Sample.goingOn();
        MicrostepChart y = Sample.goingOn();
        for (int i : NUMBERS) {
            x.remembered(i);
            x.variable(i);
            x.listed(i);
            x.waiting(i);
        }
        x.outcome();
        x.active();
        for (int round = 0; round < 3; round++) {
            CHECK.due("asking: active", x.active(), y.active());
            CHECK.due("asking: listed", x.listed(0), y.listed(0));
            CHECK.due("asking: waiting", x.waiting(2), y.waiting(2));
            CHECK.due("asking: step", x.step(), y.step());
            CHECK.due("asking: tick", x.tick(3), y.tick(3));
            CHECK.due("asking: variable", x.variable(0), y.variable(0));
        }
    }
}

/** The run FAILS: the last event, record and microstep that there is room or fuel for, and the first without. */
public final class EdgesOfRoomTest {
    private static final Check CHECK = new Check();
    private static final int RAISE = 2;
    private static final int SEND = 3;
    private static final int EXIT_OF_3 = 203;
    private static final int EXIT_OF_1 = 201;
    private static final int TAKEN = 0;
    private static final int ENTRY_OF_2 = 102;
    private static final int ENTRY_OF_4 = 104;

    public static void main(String[] args) {
        for (int owner : new int[] {EXIT_OF_3, EXIT_OF_1, TAKEN, ENTRY_OF_2, ENTRY_OF_4}) {
            lastRoomOfTheInternalLine(owner);
            lastRoomOfTheExternalLine(owner);
            lastRoomOfTheSentEvents(owner);
        }
        roomWhileBeginning();
        roomForDoneEvents();
        notDoneWhenItsEntryFailed();
        internalLineIsUsedAgain();
        externalLineIsUsedAgain();
        sentEventsAreUsedAgain();
        fullLinesDoNotTouchEachOther();
        roomOfTick();
        tickNeedsNoRoomWhenNoneIsDue();
        for (int records = 183; records <= 200; records++) {
            recordsOfAStep(records);
            recordsOfBegin(records);
        }
        listIsEmptiedForTheNextStep();
        thirtyMicrosteps();
        thirtyMicrostepsOfBegin();
        thirtyMicrostepsWithoutTheFirst();
        finishedWithTheThirtieth();
        fuelBeforeRoom();
        fuelTouchesNothing();
        CHECK.end("EdgesOfRoomTest");
    }

    private static int send(MicrostepChart x, int event) {
        CHECK.due("post " + event, x.post(event), true);
        return x.step();
    }

    /**
     * Event 1 leads from 3 in 1 to 4 in 2. The owner does the action count times; each place of the microstep adds a
     * digit to variable 0 before, and the owner sets variable 1 behind, so that one sees how far it came.
     */
    private static MicrostepChart moving(int owner, int op, int b, int count) {
        MicrostepChart x = new MicrostepChart();
        x.state(0, 1);
        x.state(0, 1);
        x.state(1, 1);
        x.state(2, 1);
        x.state(1, 5);
        x.transition(3, 1, 4);
        int[] owners = {EXIT_OF_3, EXIT_OF_1, TAKEN, ENTRY_OF_2, ENTRY_OF_4};
        for (int i = 0; i < owners.length; i++) {
            x.action(owners[i], 1, 0, 1 << 4 * i);
        }
        for (int i = 0; i < count; i++) {
            CHECK.due("6: action", x.action(owner, op, 2, b), true);
        }
        CHECK.due("6: action", x.action(owner, 0, 1, 1), true);
        x.begin();
        return x;
    }

    private static void dueWhole(String name, MicrostepChart x) {
        CHECK.due(name + ": one microstep", send(x, 1), 1);
        CHECK.due(name + ": going on", x.outcome(), 1);
        CHECK.records(name, x, 2003, 2001, 3000, 1002, 1004);
        CHECK.due(name + ": all done", x.variable(0), 0x11111);
        CHECK.due(name + ": the owner's last action too", x.variable(1), 1);
        CHECK.due(name + ": active", x.active(), 4 + 16);
    }

    private static void dueFailedAt(String name, MicrostepChart x, int owner) {
        CHECK.due(name + ": one was begun", send(x, 1), 1);
        CHECK.due(name + ": failed for want of room", x.outcome(), 4);
        CHECK.due(name + ": the owner's next action is not done", x.variable(1), 0);
        CHECK.due(name + ": remembered before", x.remembered(5), 8);
        switch (owner) {
            case EXIT_OF_3:
                dueLeft(name, x, 0x00001, 2 + 8, 2003);
                break;
            case EXIT_OF_1:
                dueLeft(name, x, 0x00011, 2, 2003, 2001);
                break;
            case TAKEN:
                dueLeft(name, x, 0x00111, 0, 2003, 2001, 3000);
                break;
            case ENTRY_OF_2:
                dueLeft(name, x, 0x01111, 4, 2003, 2001, 3000, 1002);
                break;
            default:
                dueLeft(name, x, 0x11111, 4 + 16, 2003, 2001, 3000, 1002, 1004);
                break;
        }
    }

    private static void dueLeft(String name, MicrostepChart x, int done, int active, int... records) {
        CHECK.due(name + ": nothing further is done", x.variable(0), done);
        CHECK.due(name + ": nothing further is changed", x.active(), active);
        CHECK.records(name, x, records);
    }

    private static void lastRoomOfTheInternalLine(int owner) {
        String name = "RAISE by " + owner;
        MicrostepChart x = moving(owner, RAISE, 0, 16);
        dueWhole(name + ", the 16th", x);
        CHECK.waiting(name + ": used up by the macrostep", x, 0, 0, 0);
        MicrostepChart y = moving(owner, RAISE, 0, 17);
        dueFailedAt(name + ", the 17th", y, owner);
        CHECK.waiting(name + ": it is not put there", y, 16, 0, 0);
    }

    private static void lastRoomOfTheExternalLine(int owner) {
        String name = "SEND with 0 by " + owner;
        MicrostepChart x = moving(owner, SEND, 0, 16);
        dueWhole(name + ", the 16th", x);
        CHECK.waiting(name, x, 0, 16, 0);
        CHECK.due(name + ": none may be posted", x.post(1), false);
        MicrostepChart y = moving(owner, SEND, 0, 17);
        dueFailedAt(name + ", the 17th", y, owner);
        CHECK.waiting(name + ": it is not put there", y, 0, 16, 0);
    }

    private static void lastRoomOfTheSentEvents(int owner) {
        for (int b : new int[] {1, 50}) {
            String name = "SEND with " + b + " by " + owner;
            MicrostepChart x = moving(owner, SEND, b, 12);
            dueWhole(name + ", the 12th", x);
            CHECK.waiting(name, x, 0, 0, 12);
            MicrostepChart y = moving(owner, SEND, b, 13);
            dueFailedAt(name + ", the 13th", y, owner);
            CHECK.waiting(name + ": it is not put there", y, 0, 0, 12);
        }
    }

    private static MicrostepChart beginning(int op, int b, int count) {
        MicrostepChart x = new MicrostepChart();
        x.state(0, 1);
        x.state(1, 1);
        x.transition(2, 0, -1);
        x.guard(0, 1, 1, 0);
        x.action(0, 0, 1, 1);
        for (int i = 0; i < count; i++) {
            x.action(101, op, 2, b);
        }
        x.action(101, 0, 0, 1);
        return x;
    }

    private static void dueBegun(int op, int b, int room) {
        String name = "begin, op " + op + " with " + b;
        MicrostepChart x = beginning(op, b, room);
        CHECK.due(name + ": the last one has room", x.begin(), 1);
        CHECK.due(name, x.outcome(), 1);
        CHECK.records(name, x, 1001, 1002, 3000);
        MicrostepChart y = beginning(op, b, room + 1);
        CHECK.due(name + ": the next has none", y.begin(), 0);
        CHECK.due(name, y.outcome(), 4);
        CHECK.records(name, y, 1001);
        CHECK.due(name + ": it was active already", y.active(), 2);
        CHECK.due(name + ": nothing further", y.variable(0), 0);
        CHECK.waiting(name, y, op == RAISE ? room : 0, op == SEND && b == 0 ? room : 0, b > 0 ? room : 0);
    }

    private static void roomWhileBeginning() {
        dueBegun(RAISE, 0, 16);
        dueBegun(SEND, 0, 16);
        dueBegun(SEND, 1, 12);
    }

    /** A region with a final state: count events are raised before its parent, and then the whole, is done. */
    private static MicrostepChart doneAfter(int count) {
        MicrostepChart x = new MicrostepChart();
        x.state(0, 2);
        x.state(1, 1);
        x.state(1, 1);
        x.state(2, 3);
        x.state(3, 3);
        for (int i = 0; i < count; i++) {
            x.action(101, RAISE, 2, 0);
        }
        x.begin();
        return x;
    }

    private static void roomForDoneEvents() {
        MicrostepChart x = doneAfter(13);
        CHECK.due("three done events are the last", x.outcome(), 1);
        CHECK.waiting("all used up", x, 0, 0, 0);
        int[][] entered = {{1001, 1002, 1003, 1004, 1005}, {1001, 1002, 1003, 1004, 1005}, {1001, 1002, 1003, 1004}};
        for (int count = 14; count <= 16; count++) {
            MicrostepChart y = doneAfter(count);
            CHECK.due("one done event has no room, " + count, y.outcome(), 4);
            CHECK.waiting("it is not put there", y, 16, 0, 0);
            CHECK.records("as far as it came", y, entered[count - 14]);
            CHECK.due("entered", y.active(), count == 16 ? 2 + 4 + 8 + 16 : 2 + 4 + 8 + 16 + 32);
        }
    }

    /** The entry of a final state lacks room outside the internal line: its done events are not raised any more. */
    private static void notDoneWhenItsEntryFailed() {
        for (int b = 0; b <= 1; b++) {
            int room = b == 0 ? 16 : 12;
            MicrostepChart x = new MicrostepChart();
            x.state(0, 2);
            x.state(1, 1);
            x.state(2, 3);
            for (int i = 0; i <= room; i++) {
                x.action(103, SEND, 2, b);
            }
            x.begin();
            CHECK.due("the entry failed", x.outcome(), 4);
            CHECK.due("it was active already", x.active(), 2 + 4 + 8);
            CHECK.waiting("nothing is raised", x, 0, b == 0 ? room : 0, b == 0 ? 0 : room);
        }
        MicrostepChart y = new MicrostepChart();
        y.state(0, 3);
        for (int i = 0; i <= 12; i++) {
            y.action(101, SEND, 2, 1);
        }
        y.begin();
        CHECK.due("a run that failed is not finished", y.outcome(), 4);
    }

    /** More than 16 events go through the internal line in one call, never more than 16 at once, in their order. */
    private static void internalLineIsUsedAgain() {
        MicrostepChart x = new MicrostepChart();
        x.state(0, 1);
        for (int event = 1; event <= 15; event++) {
            x.transition(1, event, -1);
            x.action(event - 1, RAISE, event + 1, 0);
        }
        for (int event = 1; event <= 15; event++) {
            x.action(14, RAISE, event, 0);
        }
        x.transition(1, 16, -1);
        x.action(15, 1, 0, 1);
        x.begin();
        CHECK.due("30 microsteps", send(x, 1), 30);
        for (int i = 0; i < 15; i++) {
            CHECK.due("the first round", x.listed(i), 3000 + i);
        }
        CHECK.due("16 comes behind 15", x.listed(15), 3015);
        for (int i = 16; i < 30; i++) {
            CHECK.due("the second round", x.listed(i), 3000 + i - 16);
        }
        CHECK.due("fuel", x.outcome(), 3);
    }

    private static void externalLineIsUsedAgain() {
        MicrostepChart x = new MicrostepChart();
        x.state(0, 1);
        for (int t = 0; t < 20; t++) {
            x.transition(1, t + 1, -1);
        }
        x.begin();
        for (int i = 0; i < 16; i++) {
            CHECK.due("8: post", x.post(1 + i % 20), true);
        }
        for (int i = 0; i < 60; i++) {
            CHECK.due("8: no room", x.post(20), false);
            CHECK.due("9: one goes", x.step(), 1);
            CHECK.due("9: the first", x.listed(0), 3000 + i % 20);
            CHECK.due("8: one has room", x.post(1 + (i + 16) % 20), true);
        }
        CHECK.waiting("full again", x, 0, 16, 0);
    }

    private static void sentEventsAreUsedAgain() {
        MicrostepChart x = new MicrostepChart();
        x.state(0, 1);
        x.transition(1, 1, -1);
        x.transition(1, 2, -1);
        for (int i = 0; i < 12; i++) {
            x.action(0, SEND, 3, i < 5 ? 1 : 2);
        }
        for (int i = 0; i < 5; i++) {
            x.action(1, SEND, 3, 9);
        }
        x.begin();
        CHECK.due("12 are sent", send(x, 1), 1);
        CHECK.due("10: five of them are due", x.tick(1), 1);
        CHECK.waiting("five have room again", x, 0, 5, 7);
        for (int i = 0; i < 5; i++) {
            x.step();
        }
        CHECK.due("five are sent", send(x, 2), 1);
        CHECK.due("they have room", x.outcome(), 1);
        CHECK.waiting("12", x, 0, 0, 12);
        CHECK.due("a 13th", send(x, 2), 1);
        CHECK.due("has none", x.outcome(), 4);
        CHECK.waiting("12", x, 0, 0, 12);
    }

    private static void fullLinesDoNotTouchEachOther() {
        MicrostepChart x = new MicrostepChart();
        x.state(0, 1);
        x.transition(1, 1, -1);
        x.transition(1, 2, -1);
        x.transition(1, 3, -1);
        for (int i = 0; i < 12; i++) {
            x.action(0, SEND, 4, 1);
        }
        for (int i = 0; i < 16; i++) {
            x.action(1, RAISE, 5, 0);
        }
        x.action(2, SEND, 4, 0);
        x.begin();
        send(x, 1);
        x.post(2);
        x.post(3);
        for (int i = 2; i < 16; i++) {
            x.post(6);
        }
        CHECK.waiting("external and sent ones are full", x, 0, 16, 12);
        CHECK.due("16 raised beside them", x.step(), 1);
        CHECK.due("going on", x.outcome(), 1);
        x.post(6);
        CHECK.due("one taken, one sent with 0", x.step(), 1);
        CHECK.due("going on", x.outcome(), 1);
        CHECK.waiting("full as before", x, 0, 16, 12);
        x.reset();
        x.begin();
        x.post(1);
        for (int i = 1; i < 16; i++) {
            x.post(6);
        }
        CHECK.due("12 are sent beside 15 external ones", x.step(), 1);
        CHECK.waiting("all have room", x, 0, 15, 12);
        CHECK.due("going on", x.outcome(), 1);
    }

    private static void tickNeedsNoRoomWhenNoneIsDue() {
        MicrostepChart x = new MicrostepChart();
        x.state(0, 1);
        x.action(101, SEND, 2, 3);
        x.begin();
        for (int i = 0; i < 16; i++) {
            x.post(8);
        }
        CHECK.due("10: none is due", x.tick(2), 2);
        CHECK.due("10: the run goes on", x.outcome(), 1);
        CHECK.waiting("10: nothing has come", x, 0, 16, 1);
        CHECK.due("10: one is due", x.tick(1), 3);
        CHECK.due("10: it has no room", x.outcome(), 4);
        MicrostepChart y = new MicrostepChart();
        y.state(0, 1);
        y.begin();
        for (int i = 0; i < 16; i++) {
            y.post(8);
        }
        CHECK.due("10: none was sent", y.tick(50), 50);
        CHECK.due("10: the run goes on", y.outcome(), 1);
    }

    private static MicrostepChart sentAndPosted(int posted) {
        MicrostepChart x = new MicrostepChart();
        x.state(0, 1);
        for (int event = 1; event <= 8; event++) {
            x.transition(1, event, -1);
        }
        int[] delays = {3, 2, 3, 2, 4, 1};
        for (int i = 0; i < delays.length; i++) {
            x.action(0, SEND, 2 + i, delays[i]);
        }
        x.begin();
        send(x, 1);
        for (int i = 0; i < posted; i++) {
            x.post(8);
        }
        return x;
    }

    private static void dueOrder(MicrostepChart x, int posted, int... events) {
        for (int i = 0; i < posted; i++) {
            x.step();
            CHECK.due("10: what was there comes first", x.listed(0), 3007);
        }
        for (int event : events) {
            x.step();
            CHECK.due("10: event " + event, x.listed(0), 3000 + event - 1);
        }
        CHECK.due("10: no more", x.step(), MicrostepChart.EMPTY);
    }

    private static void roomOfTick() {
        MicrostepChart x = sentAndPosted(11);
        CHECK.due("10: five are due", x.tick(3), 3);
        CHECK.due("10: the last one has room", x.outcome(), 1);
        CHECK.waiting("10", x, 0, 16, 1);
        dueOrder(x, 11, 7, 3, 5, 2, 4);
        for (int posted = 12; posted <= 16; posted++) {
            MicrostepChart y = sentAndPosted(posted);
            CHECK.due("10: answers the clock", y.tick(3), 3);
            CHECK.due("10: fails at the first without room", y.outcome(), 4);
            CHECK.waiting("10: it stays among the sent ones", y, 0, 16, 6 - (16 - posted));
            CHECK.due("10: list untouched", y.listed(0), 3000);
            CHECK.due("10: BAD then", y.tick(1), MicrostepChart.BAD);
        }
        MicrostepChart z = sentAndPosted(15);
        CHECK.due("10: one is due", z.tick(1), 1);
        CHECK.waiting("10: it has room", z, 0, 16, 5);
        CHECK.due("10: two are due", z.tick(1), 2);
        CHECK.due("10: they have none", z.outcome(), 4);
        MicrostepChart w = sentAndPosted(16);
        w.step();
        CHECK.due("10: one is due", w.tick(1), 1);
        CHECK.due("10: room of one", w.outcome(), 1);
    }

    /**
     * Five states, one in the other. A microstep to 1 has 11 records, one without a target has 1. By the variables:
     * the first kind as often as 0 says, the second as often as 1 says, and then the first kind variable 2 times.
     */
    private static MicrostepChart recording(int event, int many, int few) {
        MicrostepChart x = new MicrostepChart();
        for (int s = 1; s <= 5; s++) {
            x.state(s - 1, 1);
        }
        x.state(0, 1);
        x.initial(6);
        x.transition(6, event, 1);
        x.action(0, 0, 0, many);
        x.action(0, 0, 1, few);
        x.action(0, 0, 2, 1);
        int[] targets = {1, -1, 1};
        for (int v = 0; v < 3; v++) {
            x.transition(1, 0, targets[v]);
            x.guard(v + 1, v, 2, 0);
            x.action(v + 1, 1, v, -1);
        }
        for (int s = 1; s <= 5; s++) {
            x.action(100 + s, 1, 3, 1);
            x.action(200 + s, 1, 3, 100);
        }
        return x;
    }

    /** The last microstep has 11 records to put behind those before it: as many are put as make 200. */
    private static void dueLast(String name, MicrostepChart x, int before, int rounds) {
        int put = Math.min(200 - before, 11);
        int left = Math.min(put, 5);
        int entered = Math.max(put - 6, 0);
        int[] last = {2005, 2004, 2003, 2002, 2001, 3003, 1001, 1002, 1003, 1004, 1005};
        for (int i = 0; i < put; i++) {
            CHECK.due(name + ": record " + (before + i), x.listed(before + i), last[i]);
        }
        CHECK.due(name + ": no more", x.listed(before + put), -1);
        CHECK.due(name + ": outcome", x.outcome(), put == 11 ? 1 : 4);
        CHECK.due(name + ": active", x.active(), (1 << 1 + (entered > 0 ? entered : 5 - left)) - 2);
        CHECK.due(name + ": the transition's action", x.variable(2), put >= 6 ? 0 : 1);
        CHECK.due(name + ": exits and entries", x.variable(3), 5 + 505 * rounds + 100 * left + entered);
    }

    private static void recordsOfAStep(int before) {
        int many = before < 194 ? 16 : 17;
        int few = before - 7 - 11 * many;
        MicrostepChart x = recording(1, many, few);
        x.begin();
        CHECK.due("records of a step, microsteps", send(x, 1), 1 + many + few + 1);
        dueLast("records of a step, " + before + " before the last microstep", x, before, many);
    }

    private static void recordsOfBegin(int before) {
        int many = before < 184 ? 15 : before < 195 ? 16 : 17;
        int few = before - 8 - 11 * many;
        MicrostepChart x = recording(0, many, few);
        CHECK.due("records of begin, microsteps", x.begin(), 1 + many + few + 1);
        dueLast("records of begin, " + before + " before the last microstep", x, before, many);
    }

    private static void listIsEmptiedForTheNextStep() {
        MicrostepChart x = recording(1, 16, 6);
        x.transition(1, 2, 6);
        x.transition(1, 3, -1);
        x.begin();
        send(x, 1);
        CHECK.due("200 records", x.listed(199), 1005);
        CHECK.due("200 records", x.listed(200), -1);
        CHECK.due("the run goes on", x.outcome(), 1);
        CHECK.due("EMPTY", x.step(), MicrostepChart.EMPTY);
        CHECK.due("EMPTY leaves the list", x.listed(199), 1005);
        x.tick(1);
        CHECK.due("tick leaves the list", x.listed(199), 1005);
        CHECK.due("one more record", send(x, 3), 1);
        CHECK.records("in an empty list", x, 3005);
        send(x, 2);
        CHECK.due("200 again", send(x, 1), 24);
        CHECK.due("200 records", x.listed(199), 1005);
        CHECK.due("the run goes on", x.outcome(), 1);
    }

    /** Counts variable 0 up to 0, one microstep for each; event 1 .. 3 set it to -28 .. -30 by a microstep. */
    private static MicrostepChart counting() {
        MicrostepChart x = new MicrostepChart();
        x.state(0, 1);
        x.transition(1, 0, -1);
        x.guard(0, 0, 0, 0);
        x.action(0, 1, 0, 1);
        for (int event = 1; event <= 3; event++) {
            x.transition(1, event, -1);
            x.action(event, 0, 0, -27 - event);
        }
        return x;
    }

    private static void thirtyMicrosteps() {
        MicrostepChart x = counting();
        x.begin();
        for (int round = 0; round < 3; round++) {
            CHECK.due("29 microsteps", send(x, 1), 29);
            CHECK.due("30 microsteps, counted anew for each call", send(x, 2), 30);
            CHECK.due("going on", x.outcome(), 1);
            CHECK.due("all done", x.variable(0), 0);
        }
        CHECK.due("those begun", send(x, 3), 30);
        CHECK.due("no fuel for the 31st", x.outcome(), 3);
        CHECK.due("it has done nothing", x.variable(0), -1);
        CHECK.due("records of 30", x.listed(29), 3000);
        CHECK.due("records of 30", x.listed(30), -1);
    }

    private static void thirtyMicrostepsOfBegin() {
        MicrostepChart x = counting();
        x.action(101, 0, 0, -30);
        CHECK.due("begin: 30 microsteps beside the entering", x.begin(), 30);
        CHECK.due("going on", x.outcome(), 1);
        CHECK.due("30 more in the next call", send(x, 2), 30);
        CHECK.due("going on", x.outcome(), 1);
        MicrostepChart y = counting();
        y.action(101, 0, 0, -31);
        CHECK.due("begin: those begun", y.begin(), 30);
        CHECK.due("no fuel for the 31st", y.outcome(), 3);
        CHECK.due("it has done nothing", y.variable(0), -1);
        CHECK.due("records", y.listed(30), 3000);
        CHECK.due("records", y.listed(31), -1);
    }

    /** The event of the step selects nothing, so all its microsteps are those of the macrostep. */
    private static void thirtyMicrostepsWithoutTheFirst() {
        for (int count = 30; count <= 31; count++) {
            MicrostepChart x = new MicrostepChart();
            x.state(0, 1);
            x.state(0, 1);
            x.transition(1, 1, 2);
            x.transition(2, 0, -1);
            x.guard(1, 0, 0, 0);
            x.action(1, 1, 0, 1);
            x.action(0, 0, 0, 1 - count);
            x.begin();
            CHECK.due("9: no microstep for an event that selects nothing", send(x, 2), 0);
            CHECK.due("9: as many as there are", send(x, 1), 30);
            CHECK.due("9: outcome", x.outcome(), count == 30 ? 1 : 3);
        }
    }

    private static void finishedWithTheThirtieth() {
        for (int start = -29; start >= -30; start--) {
            MicrostepChart x = new MicrostepChart();
            x.state(0, 1);
            x.state(0, 3);
            x.transition(1, 0, -1);
            x.guard(0, 0, 0, 0);
            x.action(0, 1, 0, 1);
            x.transition(1, 0, 2);
            x.action(101, 0, 0, start);
            CHECK.due("30 were begun", x.begin(), 30);
            CHECK.due("finished by the 30th, not by the 31st", x.outcome(), start == -29 ? 2 : 3);
            CHECK.due("active", x.active(), start == -29 ? 4 : 2);
        }
    }

    /** The 31st microstep would also lack room, but it is not begun. */
    private static void fuelBeforeRoom() {
        MicrostepChart x = counting();
        x.transition(1, 0, -1);
        for (int i = 0; i < 17; i++) {
            x.action(4, RAISE, 9, 0);
        }
        x.action(101, 0, 0, -30);
        CHECK.due("30 were begun", x.begin(), 30);
        CHECK.due("for want of fuel", x.outcome(), 3);
        CHECK.waiting("none was raised", x, 0, 0, 0);
        MicrostepChart y = counting();
        y.transition(1, 0, -1);
        for (int i = 0; i < 17; i++) {
            y.action(4, RAISE, 9, 0);
        }
        y.action(101, 0, 0, -29);
        CHECK.due("30 were begun", y.begin(), 30);
        CHECK.due("for want of room in the 30th", y.outcome(), 4);
        CHECK.waiting("16 were raised", y, 16, 0, 0);
    }

    private static void fuelTouchesNothing() {
        MicrostepChart x = new MicrostepChart();
        x.state(0, 1);
        x.state(1, 1);
        x.state(1, 4);
        x.state(1, 5);
        x.state(0, 1);
        x.transition(2, 0, -1);
        x.guard(0, 0, 0, 0);
        x.action(0, 1, 0, 1);
        x.transition(1, 0, 5);
        x.action(201, 0, 1, 1);
        x.action(102, 0, 0, -30);
        x.action(101, RAISE, 7, 0);
        x.action(101, SEND, 8, 0);
        x.action(101, SEND, 9, 4);
        CHECK.due("30 were begun", x.begin(), 30);
        CHECK.due("for want of fuel", x.outcome(), 3);
        CHECK.due("nothing is left", x.active(), 2 + 4);
        CHECK.due("nothing is remembered, shallow", x.remembered(3), 0);
        CHECK.due("nothing is remembered, deep", x.remembered(4), 0);
        CHECK.due("no exit action", x.variable(1), 0);
        CHECK.waiting("lines are as they were", x, 1, 1, 1);
        CHECK.due("32 records", x.listed(31), 3000);
        CHECK.due("32 records", x.listed(32), -1);
    }
}

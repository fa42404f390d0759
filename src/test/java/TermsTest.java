/** The terms that promises 7 and 9 lean on: selecting, conflicts, microsteps, histories, done events, failing. */
public final class TermsTest {
    private static final Check CHECK = new Check();

    public static void main(String[] args) {
        innermostTransitionFirst();
        leastNumberAmongEnabled();
        sharedAncestorSelectedOnce();
        noEventBeforeInternal();
        guardsSeeTheStateBeforeTheMicrostep();
        domainOfSelfAndInnerTargets();
        targetlessLeavesNothing();
        orderWithinAMicrostep();
        conflictFirstWins();
        conflictInnerDropsOuter();
        emptyExitSetIsAgainstNothing();
        conflictNoneDroppedWhenOneForbids();
        shallowHistory();
        deepHistory();
        historyOfParallel();
        historyInsideItsOwnParent();
        historyRemembersBeforeItIsEntered();
        doneEvents();
        doneOfParallelByTheLastOne();
        finalOfZeroFinishesAfterTheMicrostep();
        fuel();
        fuelOfBegin();
        fuelTakesTheEvent();
        recordRoom();
        externalRoom();
        sentRoom();
        failureInExit();
        failureInTransition();
        failureInDoneEvent();
        CHECK.end("TermsTest");
    }

    private static int send(MicrostepChart x, int event) {
        x.post(event);
        return x.step();
    }

    private static void innermostTransitionFirst() {
        MicrostepChart x = new MicrostepChart();
        x.state(0, 1);
        x.state(1, 1);
        x.state(2, 1);
        x.transition(1, 1, -1);
        x.transition(2, 1, -1);
        x.transition(3, 2, -1);
        x.guard(1, 0, 1, 0);
        x.action(1, 0, 0, 1);
        x.begin();
        send(x, 1);
        CHECK.records("inner one", x, 3001);
        send(x, 1);
        CHECK.records("its guard fails, so upwards", x, 3000);
    }

    private static void leastNumberAmongEnabled() {
        MicrostepChart x = new MicrostepChart();
        x.state(0, 1);
        x.transition(1, 1, -1);
        x.transition(1, 2, -1);
        x.transition(1, 1, -1);
        x.transition(1, 1, -1);
        x.guard(0, 0, 2, 0);
        x.begin();
        send(x, 1);
        CHECK.records("least whose guard holds", x, 3002);
    }

    private static void sharedAncestorSelectedOnce() {
        MicrostepChart x = new MicrostepChart();
        x.state(0, 2);
        x.state(1, 1);
        x.state(1, 1);
        x.state(1, 1);
        x.transition(1, 1, -1);
        x.transition(3, 1, -1);
        x.action(0, 1, 0, 1);
        x.begin();
        CHECK.due("one microstep", send(x, 1), 1);
        CHECK.records("once, in the order of selecting", x, 3000, 3001);
        CHECK.due("done once", x.variable(0), 1);
    }

    private static void noEventBeforeInternal() {
        MicrostepChart x = new MicrostepChart();
        x.state(0, 1);
        x.state(0, 1);
        x.state(0, 1);
        x.transition(1, 1, 2);
        x.action(0, 2, 5, 0);
        x.transition(2, 5, -1);
        x.transition(2, 0, 3);
        x.transition(3, 5, -1);
        x.begin();
        CHECK.due("three", send(x, 1), 3);
        CHECK.records("no event first", x, 2001, 3000, 1002, 2002, 3002, 1003, 3003);
    }

    private static void guardsSeeTheStateBeforeTheMicrostep() {
        MicrostepChart x = new MicrostepChart();
        x.state(0, 2);
        x.state(1, 1);
        x.state(1, 1);
        x.state(2, 1);
        x.state(2, 1);
        x.state(3, 1);
        x.state(3, 1);
        x.transition(4, 1, 5);
        x.transition(6, 1, 7);
        x.guard(1, 0, 3, 4);
        x.transition(7, 1, 6);
        x.guard(2, 0, 3, 4);
        x.begin();
        send(x, 1);
        CHECK.records("both", x, 2006, 2004, 3000, 3001, 1005, 1007);
        CHECK.due("4 is no longer active", send(x, 1), 0);
    }

    private static void domainOfSelfAndInnerTargets() {
        MicrostepChart x = new MicrostepChart();
        x.state(0, 1);
        x.state(1, 1);
        x.state(2, 1);
        x.state(2, 1);
        x.transition(3, 1, 3);
        x.transition(2, 2, 4);
        x.transition(4, 3, 2);
        x.transition(4, 4, 1);
        x.begin();
        send(x, 1);
        CHECK.records("self", x, 2003, 3000, 1003);
        send(x, 2);
        CHECK.records("to one below: the source is left too", x, 2003, 2002, 3001, 1002, 1004);
        send(x, 3);
        CHECK.records("to the parent", x, 2004, 2002, 3002, 1002, 1003);
        send(x, 2);
        send(x, 4);
        CHECK.records("to the grandparent, domain 0", x, 2004, 2002, 2001, 3003, 1001, 1002, 1003);
    }

    private static void targetlessLeavesNothing() {
        MicrostepChart x = new MicrostepChart();
        x.state(0, 2);
        x.state(1, 1);
        x.state(1, 1);
        x.transition(1, 1, 1);
        x.transition(3, 1, -1);
        x.begin();
        send(x, 1);
        CHECK.records("no conflict without exits", x, 2003, 2002, 2001, 3000, 3001, 1001, 1002, 1003);
    }

    private static void orderWithinAMicrostep() {
        MicrostepChart x = new MicrostepChart();
        x.state(0, 1);
        x.state(1, 1);
        x.state(0, 1);
        x.state(3, 1);
        x.transition(2, 1, 4);
        x.action(202, 0, 0, 1);
        x.action(201, 1, 0, 10);
        x.action(0, 1, 0, 100);
        x.action(103, 0, 1, 2);
        x.action(104, 1, 1, 20);
        x.action(202, 2, 11, 0);
        x.action(104, 2, 14, 0);
        x.action(0, 2, 12, 0);
        x.action(103, 2, 13, 0);
        x.transition(4, 11, -1);
        x.transition(4, 12, -1);
        x.transition(4, 13, -1);
        x.transition(4, 14, -1);
        x.begin();
        CHECK.due("five", send(x, 1), 5);
        CHECK.records("order", x, 2002, 2001, 3000, 1003, 1004, 3001, 3002, 3003, 3004);
        CHECK.due("exits, then the transition", x.variable(0), 111);
        CHECK.due("entries downwards", x.variable(1), 22);
    }

    private static MicrostepChart twoRegions() {
        MicrostepChart x = new MicrostepChart();
        x.state(0, 2);
        x.state(1, 1);
        x.state(1, 1);
        x.state(2, 1);
        x.state(2, 1);
        x.state(3, 1);
        x.state(3, 1);
        x.state(0, 1);
        return x;
    }

    private static void conflictFirstWins() {
        MicrostepChart x = twoRegions();
        x.transition(6, 1, 8);
        x.transition(4, 1, 5);
        x.begin();
        CHECK.due("one microstep", send(x, 1), 1);
        CHECK.records("the one of the lesser atomic state", x, 2004, 3001, 1005);
        CHECK.due("active", x.active(), 2 + 4 + 8 + 32 + 64);
        send(x, 1);
        CHECK.due("alone it is kept", x.active(), 256);
    }

    private static void conflictInnerDropsOuter() {
        MicrostepChart x = twoRegions();
        x.transition(1, 1, 8);
        x.transition(6, 1, 7);
        x.begin();
        send(x, 1);
        CHECK.records("the outer one is dropped", x, 2006, 3001, 1007);
        send(x, 1);
        CHECK.records("then nothing is against it", x, 2007, 2004, 2003, 2002, 2001, 3000, 1008);
    }

    private static void emptyExitSetIsAgainstNothing() {
        MicrostepChart x = new MicrostepChart();
        x.state(0, 2);
        x.state(1, 1);
        x.state(1, 2);
        x.state(2, 1);
        x.state(2, 1);
        x.state(3, 1);
        x.state(3, 1);
        x.state(6, 1);
        x.state(7, 1);
        x.state(0, 1);
        x.transition(4, 1, 5);
        x.transition(3, 1, -1);
        x.transition(9, 1, 10);
        x.begin();
        CHECK.due("begun", x.active(), 2 + 4 + 8 + 16 + 64 + 128 + 256 + 512);
        send(x, 1);
        CHECK.records("the first and the targetless one", x, 2004, 3000, 3001, 1005);
        send(x, 1);
        CHECK.records("the targetless one stays", x, 2009, 2008, 2007, 2006, 2005, 2003, 2002, 2001, 3001, 3002, 1010);
    }

    /** The last one is below the source of one kept transition, but not below that of the other. */
    private static void conflictNoneDroppedWhenOneForbids() {
        MicrostepChart x = new MicrostepChart();
        x.state(0, 2);
        x.state(1, 1);
        x.state(1, 1);
        x.state(2, 1);
        x.state(2, 1);
        x.state(3, 2);
        x.state(6, 1);
        x.state(6, 1);
        x.state(3, 1);
        x.state(0, 1);
        x.transition(4, 1, 5);
        x.transition(6, 1, 9);
        x.transition(8, 1, 10);
        x.begin();
        send(x, 1);
        CHECK.records("forbidden by the first", x, 2008, 2007, 2006, 2004, 3000, 3001, 1005, 1009);
        MicrostepChart y = new MicrostepChart();
        y.state(0, 2);
        y.state(1, 1);
        y.state(1, 1);
        y.state(2, 2);
        y.state(4, 1);
        y.state(3, 1);
        y.state(3, 1);
        y.state(4, 1);
        y.state(2, 1);
        y.state(0, 1);
        y.transition(4, 1, 9);
        y.transition(6, 1, 7);
        y.transition(8, 1, 10);
        y.begin();
        send(y, 1);
        CHECK.records("forbidden by the second", y, 2008, 2006, 2005, 2004, 3000, 3001, 1007, 1009);
    }

    private static void shallowHistory() {
        MicrostepChart x = new MicrostepChart();
        x.state(0, 1);
        x.state(1, 4);
        x.state(1, 1);
        x.state(1, 1);
        x.state(4, 1);
        x.state(4, 1);
        x.state(0, 1);
        x.initial(7);
        x.transition(7, 1, 2);
        x.transition(1, 2, 7);
        x.transition(3, 3, 6);
        x.transition(1, 4, 3);
        x.begin();
        send(x, 1);
        CHECK.records("never remembered: the initial child", x, 2007, 3000, 1001, 1003);
        send(x, 3);
        CHECK.due("6 is active", x.active(), 2 + 16 + 64);
        CHECK.due("1 was not left", x.remembered(2), 0);
        send(x, 2);
        CHECK.due("remembered", x.remembered(2), 16);
        send(x, 1);
        CHECK.records("4 again, with its initial child", x, 2007, 3000, 1001, 1004, 1005);
        send(x, 4);
        CHECK.due("left and entered at once", x.active(), 2 + 8);
        CHECK.due("what it was before", x.remembered(2), 16);
        send(x, 2);
        CHECK.due("remembered anew", x.remembered(2), 8);
    }

    private static void deepHistory() {
        MicrostepChart x = new MicrostepChart();
        x.state(0, 1);
        x.state(1, 5);
        x.state(1, 1);
        x.state(1, 2);
        x.state(4, 1);
        x.state(4, 1);
        x.state(5, 1);
        x.state(5, 1);
        x.state(6, 1);
        x.state(6, 1);
        x.state(0, 1);
        x.transition(3, 1, 8);
        x.transition(9, 2, 10);
        x.transition(1, 3, 11);
        x.transition(11, 4, 2);
        x.begin();
        send(x, 1);
        CHECK.records("into a region", x, 2003, 3000, 1004, 1005, 1006, 1008, 1009);
        send(x, 2);
        send(x, 3);
        CHECK.due("the atomic ones", x.remembered(2), 256 + 1024);
        send(x, 4);
        CHECK.records("all again", x, 2011, 3003, 1001, 1004, 1005, 1006, 1008, 1010);
    }

    private static void historyOfParallel() {
        MicrostepChart x = new MicrostepChart();
        x.state(0, 1);
        x.state(0, 2);
        x.state(2, 4);
        x.state(2, 5);
        x.state(2, 1);
        x.state(2, 1);
        x.state(5, 1);
        x.state(5, 1);
        x.transition(1, 1, 3);
        x.transition(1, 2, 4);
        x.transition(7, 3, 8);
        x.transition(2, 4, 1);
        x.begin();
        send(x, 1);
        CHECK.records("never remembered: the parent", x, 2001, 3000, 1002, 1005, 1006, 1007);
        send(x, 3);
        send(x, 4);
        CHECK.due("shallow: the regions", x.remembered(3), 32 + 64);
        CHECK.due("deep: the atomic ones", x.remembered(4), 64 + 256);
        send(x, 1);
        CHECK.records("by the shallow one", x, 2001, 3000, 1002, 1005, 1006, 1007);
        send(x, 3);
        send(x, 4);
        send(x, 2);
        CHECK.records("by the deep one", x, 2001, 3001, 1002, 1005, 1006, 1008);
    }

    private static void historyInsideItsOwnParent() {
        MicrostepChart x = new MicrostepChart();
        x.state(0, 1);
        x.state(1, 4);
        x.state(1, 1);
        x.state(1, 1);
        x.state(0, 1);
        x.transition(3, 1, 4);
        x.transition(4, 2, 2);
        x.transition(4, 3, 5);
        x.transition(5, 4, 3);
        x.transition(3, 2, 2);
        x.begin();
        send(x, 1);
        send(x, 2);
        CHECK.records("its parent is the domain: not left, nothing remembered", x, 2004, 3001, 1003);
        CHECK.due("nothing", x.remembered(2), 0);
        send(x, 1);
        send(x, 3);
        send(x, 4);
        CHECK.due("remembered", x.remembered(2), 16);
        send(x, 2);
        CHECK.records("what it remembers", x, 2003, 3004, 1004);
    }

    private static void historyRemembersBeforeItIsEntered() {
        MicrostepChart x = new MicrostepChart();
        x.state(0, 2);
        x.state(1, 5);
        x.state(1, 1);
        x.state(1, 1);
        x.state(3, 1);
        x.state(3, 1);
        x.transition(5, 1, 6);
        x.transition(6, 2, 2);
        x.begin();
        send(x, 1);
        send(x, 2);
        CHECK.records("as it was a moment ago", x, 2006, 2004, 2003, 2001, 3001, 1001, 1003, 1004, 1006);
        CHECK.due("remembered", x.remembered(2), 16 + 64);
    }

    private static void doneEvents() {
        MicrostepChart x = new MicrostepChart();
        x.state(0, 1);
        x.state(1, 1);
        x.state(2, 1);
        x.state(2, 3);
        x.transition(3, 1, 4);
        x.transition(1, 102, -1);
        x.transition(1, 101, -1);
        x.transition(1, 104, -1);
        x.transition(1, 9, -1);
        x.action(104, 2, 9, 0);
        x.begin();
        CHECK.due("three", send(x, 1), 3);
        CHECK.records("entry actions, then the parent is done; not those above", x, 2003, 3000, 1004, 3004, 3001);
    }

    private static void doneOfParallelByTheLastOne() {
        MicrostepChart x = new MicrostepChart();
        x.state(0, 2);
        x.state(1, 1);
        x.state(1, 1);
        x.state(2, 1);
        x.state(2, 3);
        x.state(3, 1);
        x.state(3, 3);
        x.state(3, 3);
        x.transition(4, 1, 5);
        x.transition(6, 2, 8);
        x.transition(6, 1, 7);
        x.guard(2, 0, 1, 1);
        x.transition(1, 101, -1);
        x.transition(1, 102, -1);
        x.transition(1, 103, -1);
        x.transition(1, 5, -1);
        x.action(6, 0, 0, 1);
        x.begin();
        send(x, 2);
        CHECK.records("one region", x, 2006, 3001, 1008, 3005);
        send(x, 1);
        CHECK.records("both: region, then the whole", x, 2004, 3000, 1005, 3004, 3003);
        x.reset();
        x.begin();
        send(x, 5);
        send(x, 1);
        CHECK.records("both at once: done by the second one", x, 2006, 2004, 3000, 3002, 1005, 1007, 3004, 3005,
                3003);
    }

    private static void finalOfZeroFinishesAfterTheMicrostep() {
        MicrostepChart x = new MicrostepChart();
        x.state(0, 1);
        x.state(0, 3);
        x.transition(1, 1, 2);
        x.action(102, 0, 0, 8);
        x.action(102, 3, 4, 0);
        x.transition(1, 2, 1);
        x.begin();
        CHECK.due("one", send(x, 1), 1);
        CHECK.due("entry actions were done", x.variable(0), 8);
        CHECK.due("finished", x.outcome(), 2);
        CHECK.waiting("sent", x, 0, 1, 0);
        MicrostepChart y = new MicrostepChart();
        y.state(0, 3);
        for (int i = 0; i < 17; i++) {
            y.action(101, 2, 1, 0);
        }
        y.begin();
        CHECK.due("failed before it was finished", y.outcome(), 4);
    }

    private static void fuel() {
        MicrostepChart x = new MicrostepChart();
        x.state(0, 1);
        x.transition(1, 0, -1);
        x.action(0, 1, 0, 1);
        x.guard(0, 0, 0, 0);
        x.transition(1, 1, -1);
        x.transition(1, 2, -1);
        x.action(1, 0, 0, -29);
        x.action(2, 0, 0, -30);
        x.begin();
        CHECK.due("30 are allowed", send(x, 1), 30);
        CHECK.due("going on", x.outcome(), 1);
        CHECK.due("again, counted anew", send(x, 1), 30);
        CHECK.due("going on", x.outcome(), 1);
        CHECK.due("a 31st is not begun", send(x, 2), 30);
        CHECK.due("fuel", x.outcome(), 3);
        CHECK.due("the 31st did nothing", x.variable(0), -1);
        CHECK.due("30 records", x.listed(29), 3000);
        CHECK.due("30 records", x.listed(30), -1);
    }

    private static void fuelOfBegin() {
        MicrostepChart x = new MicrostepChart();
        x.state(0, 1);
        x.transition(1, 0, -1);
        x.guard(0, 0, 0, 0);
        x.action(0, 1, 0, 1);
        x.action(101, 0, 0, -30);
        CHECK.due("entering does not count", x.begin(), 30);
        CHECK.due("going on", x.outcome(), 1);
        x.reset();
        x.action(101, 1, 0, -1);
        CHECK.due("31 are too many", x.begin(), 30);
        CHECK.due("fuel", x.outcome(), 3);
    }

    private static void fuelTakesTheEvent() {
        MicrostepChart x = new MicrostepChart();
        x.state(0, 1);
        x.transition(1, 1, -1);
        x.action(0, 2, 1, 0);
        x.action(101, 2, 1, 0);
        CHECK.due("30", x.begin(), 30);
        CHECK.due("fuel", x.outcome(), 3);
        CHECK.waiting("the event had been taken when the 31st was about to be done", x, 0, 0, 0);
    }

    private static void recordRoom() {
        MicrostepChart x = new MicrostepChart();
        x.state(0, 1);
        for (int s = 2; s <= 12; s++) {
            x.state(s - 1, 1);
        }
        x.transition(1, 0, 1);
        x.action(112, 1, 0, 1);
        x.action(212, 1, 1, 1);
        x.action(108, 1, 2, 1);
        // 12 records for begin, then 25 for each microstep: 187 after seven of them, and the eighth lacks room.
        CHECK.due("eight begun", x.begin(), 8);
        CHECK.due("room", x.outcome(), 4);
        CHECK.due("200 records", x.listed(199), 3000);
        CHECK.due("200 records", x.listed(200), -1);
        CHECK.due("left eight times", x.variable(1), 8);
        CHECK.due("entered eight times", x.variable(0), 8);
        CHECK.due("nothing is active", x.active(), 0);
    }

    private static MicrostepChart sending(int delay, int count) {
        MicrostepChart x = new MicrostepChart();
        x.state(0, 1);
        x.transition(1, 1, -1);
        for (int i = 0; i < count; i++) {
            x.action(0, 3, 2, delay);
        }
        x.action(0, 0, 0, 1);
        x.begin();
        return x;
    }

    private static void externalRoom() {
        MicrostepChart x = sending(0, 16);
        CHECK.due("16 have room", send(x, 1), 1);
        CHECK.due("going on", x.outcome(), 1);
        CHECK.waiting("16", x, 0, 16, 0);
        MicrostepChart y = sending(0, 17);
        CHECK.due("17 have not", send(y, 1), 1);
        CHECK.due("room", y.outcome(), 4);
        CHECK.waiting("16", y, 0, 16, 0);
        CHECK.due("nothing further", y.variable(0), 0);
    }

    private static void sentRoom() {
        MicrostepChart x = sending(1, 12);
        CHECK.due("12 have room", send(x, 1), 1);
        CHECK.due("going on", x.outcome(), 1);
        CHECK.due("the action behind them", x.variable(0), 1);
        x.tick(1);
        CHECK.waiting("all due", x, 0, 12, 0);
        MicrostepChart y = sending(1, 13);
        CHECK.due("13 have not", send(y, 1), 1);
        CHECK.due("room", y.outcome(), 4);
        CHECK.waiting("12", y, 0, 0, 12);
        CHECK.due("nothing further", y.variable(0), 0);
        CHECK.due("the record was made", y.listed(0), 3000);
    }

    private static void failureInExit() {
        MicrostepChart x = new MicrostepChart();
        x.state(0, 1);
        x.state(1, 1);
        x.state(1, 5);
        x.state(0, 1);
        x.transition(2, 1, 4);
        for (int i = 0; i < 13; i++) {
            x.action(202, 3, 1, 1);
        }
        x.action(201, 0, 0, 1);
        x.action(0, 0, 1, 1);
        x.action(104, 0, 2, 1);
        x.begin();
        CHECK.due("begun", send(x, 1), 1);
        CHECK.due("room", x.outcome(), 4);
        CHECK.records("in the midst", x, 2002);
        CHECK.due("still active", x.active(), 2 + 4);
        CHECK.due("remembered before", x.remembered(3), 4);
        CHECK.due("no further exit", x.variable(0), 0);
        CHECK.due("no transition", x.variable(1), 0);
        CHECK.due("no entry", x.variable(2), 0);
    }

    private static void failureInTransition() {
        MicrostepChart x = twoRegions();
        x.transition(4, 1, 5);
        x.transition(6, 1, 7);
        for (int i = 0; i < 13; i++) {
            x.action(0, 3, 1, 1);
        }
        x.action(1, 0, 0, 1);
        x.begin();
        CHECK.due("begun", send(x, 1), 1);
        CHECK.records("in the midst", x, 2006, 2004, 3000);
        CHECK.due("left, not entered", x.active(), 2 + 4 + 8);
        CHECK.due("no further transition", x.variable(0), 0);
        CHECK.due("room", x.outcome(), 4);
    }

    private static void failureInDoneEvent() {
        MicrostepChart x = new MicrostepChart();
        x.state(0, 2);
        x.state(1, 1);
        x.state(2, 3);
        for (int i = 0; i < 15; i++) {
            x.action(101, 2, 1, 0);
        }
        x.begin();
        CHECK.due("for the second done event", x.outcome(), 4);
        CHECK.waiting("the first one had room", x, 16, 0, 0);
        CHECK.due("entered", x.active(), 2 + 4 + 8);
        x.reset();
        x.action(101, 2, 1, 0);
        x.begin();
        CHECK.due("for the first done event", x.outcome(), 4);
        CHECK.waiting("full", x, 16, 0, 0);
    }
}

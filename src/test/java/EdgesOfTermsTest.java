/** The edges that the terms name: nothing selected, no target, nothing remembered, the most that can be at once. */
public final class EdgesOfTermsTest {
    private static final Check CHECK = new Check();

    public static void main(String[] args) {
        upwardsUntilStateZeroIsLeftOut();
        leastNumberOfTwenty();
        fourteenSelectedAtOnce();
        fourteenShareOne();
        fourteenInConflict();
        outerTakenAfterInnerIsNotKept();
        noTargetIsInNoConflict();
        droppedBeforeOneThatIsKept();
        twoRegionsAtOnce();
        domainSkipsParallelStates();
        domainBetweenRegionsIsAbove();
        domainOfAStateThatGotChildrenLater();
        domainOfAHistory();
        neverRememberedInAPlainState();
        neverRememberedInAParallelState();
        rememberedWhenTheParentIsLeftAlone();
        rememberedAnew();
        rememberedForEachExitSet();
        rememberedGreatestState();
        rememberedFinalState();
        rememberedOnlyByTheHistoriesOfThoseLeft();
        doneOfAChildOfZero();
        doneOfNoParallelState();
        doneIsSeenByAnAtomicState();
        doneOnlyWhenEachRegionIs();
        neverDoneWithARegionWithoutFinal();
        neverDoneByAFinalStateFurtherBelow();
        doneAgain();
        noEventFirstAndLineToItsEnd();
        raisedBehindThoseThatWait();
        sentWithZeroWaitsForTheNextStep();
        entryAndExitOfTheSameState();
        CHECK.end("EdgesOfTermsTest");
    }

    private static int send(MicrostepChart x, int event) {
        CHECK.due("post " + event, x.post(event), true);
        return x.step();
    }

    private static MicrostepChart chain(int depth) {
        MicrostepChart x = new MicrostepChart();
        for (int s = 1; s <= depth; s++) {
            x.state(s - 1, 1);
        }
        return x;
    }

    private static MicrostepChart regions(int count) {
        MicrostepChart x = new MicrostepChart();
        x.state(0, 2);
        for (int i = 0; i < count; i++) {
            x.state(1, 1);
        }
        return x;
    }

    private static void upwardsUntilStateZeroIsLeftOut() {
        MicrostepChart x = chain(15);
        for (int s = 1; s <= 15; s++) {
            x.transition(s, 1, -1);
            x.guard(s - 1, 0, 1, s);
        }
        x.transition(1, 2, -1);
        x.action(15, 1, 0, 1);
        x.begin();
        CHECK.due("none up to 0", send(x, 1), 0);
        for (int s = 1; s <= 15; s++) {
            send(x, 2);
            CHECK.due("only that of state " + s, send(x, 1), 1);
            CHECK.records("only that of state " + s, x, 3000 + s - 1);
        }
        send(x, 2);
        CHECK.due("none again", send(x, 1), 0);
    }

    private static void leastNumberOfTwenty() {
        MicrostepChart x = chain(1);
        for (int t = 0; t < 20; t++) {
            x.transition(1, 1, -1);
            x.guard(t, 0, 0, t + 1);
            x.action(t, 1, 0, 1);
        }
        x.begin();
        for (int t = 0; t < 20; t++) {
            CHECK.due("the guard of those before fails", send(x, 1), 1);
            CHECK.records("the least whose guard holds", x, 3000 + t);
        }
        CHECK.due("no guard holds", send(x, 1), 0);
    }

    private static void fourteenSelectedAtOnce() {
        MicrostepChart x = regions(14);
        for (int s = 15; s >= 2; s--) {
            x.transition(s, 1, -1);
        }
        x.begin();
        CHECK.due("one microstep", send(x, 1), 1);
        for (int i = 0; i < 14; i++) {
            CHECK.due("by growing numbers of the states", x.listed(i), 3013 - i);
        }
        CHECK.due("no more", x.listed(14), -1);
    }

    private static void fourteenShareOne() {
        MicrostepChart x = regions(14);
        x.transition(1, 1, -1);
        x.action(0, 1, 0, 1);
        x.begin();
        CHECK.due("one microstep", send(x, 1), 1);
        CHECK.records("selected once", x, 3000);
        CHECK.due("done once", x.variable(0), 1);
    }

    private static void fourteenInConflict() {
        MicrostepChart x = regions(14);
        for (int s = 15; s >= 2; s--) {
            x.transition(s, 1, s);
        }
        x.begin();
        CHECK.due("one microstep", send(x, 1), 1);
        CHECK.due("greatest left first", x.listed(0), 2015);
        CHECK.due("the whole is left", x.listed(14), 2001);
        CHECK.due("the first one selected is kept alone", x.listed(15), 3013);
        CHECK.due("the whole is entered", x.listed(16), 1001);
        CHECK.due("greatest entered last", x.listed(30), 1015);
        CHECK.due("no more", x.listed(31), -1);
    }

    private static void outerTakenAfterInnerIsNotKept() {
        MicrostepChart x = new MicrostepChart();
        x.state(0, 2);
        x.state(1, 1);
        x.state(1, 1);
        x.state(2, 1);
        x.state(2, 1);
        x.transition(4, 1, 5);
        x.transition(1, 1, 1);
        x.begin();
        CHECK.due("active", x.active(), 2 + 4 + 8 + 16);
        send(x, 1);
        // State 3 is the least active atomic one, so the outer one is taken first, and dropped for the inner one.
        CHECK.records("inner after outer", x, 2004, 3000, 1005);
        MicrostepChart y = new MicrostepChart();
        y.state(0, 2);
        y.state(1, 1);
        y.state(2, 1);
        y.state(2, 1);
        y.state(1, 1);
        y.transition(1, 1, 1);
        y.transition(3, 1, 4);
        y.begin();
        send(y, 1);
        CHECK.records("outer after inner", y, 2003, 3001, 1004);
    }

    private static void noTargetIsInNoConflict() {
        MicrostepChart x = regions(3);
        x.transition(2, 1, -1);
        x.transition(3, 1, 3);
        x.transition(4, 1, -1);
        x.begin();
        send(x, 1);
        CHECK.records("all three", x, 2004, 2003, 2002, 2001, 3000, 3001, 3002, 1001, 1002, 1003, 1004);
    }

    private static void droppedBeforeOneThatIsKept() {
        MicrostepChart x = regions(3);
        x.state(4, 1);
        x.state(4, 1);
        x.transition(1, 1, 1);
        x.transition(3, 1, -1);
        x.transition(5, 1, 6);
        x.begin();
        CHECK.due("one microstep", send(x, 1), 1);
        CHECK.records("the first one is dropped, the two behind it stay", x, 2005, 3001, 3002, 1006);
    }

    private static void twoRegionsAtOnce() {
        MicrostepChart x = regions(2);
        for (int s = 2; s <= 3; s++) {
            x.state(s, 1);
            x.state(s, 1);
        }
        x.transition(6, 1, 7);
        x.transition(4, 1, 5);
        x.begin();
        CHECK.due("one microstep", send(x, 1), 1);
        CHECK.records("both targets are entered", x, 2006, 2004, 3001, 3000, 1005, 1007);
        CHECK.due("active", x.active(), 2 + 4 + 8 + 32 + 128);
    }

    private static void domainSkipsParallelStates() {
        MicrostepChart x = new MicrostepChart();
        x.state(0, 1);
        x.state(1, 2);
        x.state(2, 2);
        x.state(3, 1);
        x.state(3, 1);
        x.state(2, 1);
        x.transition(4, 1, 4);
        x.transition(4, 2, 3);
        x.transition(4, 3, 2);
        x.transition(4, 4, 1);
        x.begin();
        for (int event = 1; event <= 3; event++) {
            send(x, event);
            CHECK.records("state 1 is the domain", x, 2006, 2005, 2004, 2003, 2002, 3000 + event - 1, 1002, 1003, 1004,
                    1005, 1006);
        }
        send(x, 4);
        CHECK.records("0 is the domain", x, 2006, 2005, 2004, 2003, 2002, 2001, 3003, 1001, 1002, 1003, 1004, 1005,
                1006);
    }

    private static void domainBetweenRegionsIsAbove() {
        MicrostepChart x = new MicrostepChart();
        x.state(0, 2);
        x.state(1, 1);
        x.state(1, 1);
        x.state(2, 1);
        x.state(3, 1);
        x.state(3, 1);
        x.state(2, 1);
        x.transition(4, 1, 6);
        x.transition(4, 2, 7);
        x.begin();
        send(x, 2);
        CHECK.records("within a region the other stays", x, 2004, 3001, 1007);
        x.reset();
        x.begin();
        send(x, 1);
        CHECK.records("to another region all are left", x, 2005, 2004, 2003, 2002, 2001, 3000, 1001, 1002, 1003, 1004,
                1006);
    }

    private static void domainOfAStateThatGotChildrenLater() {
        MicrostepChart x = chain(2);
        x.transition(2, 1, 2);
        x.transition(1, 2, 2);
        x.state(2, 1);
        x.state(1, 1);
        x.begin();
        send(x, 1);
        CHECK.records("below its parent", x, 2003, 2002, 3000, 1002, 1003);
        send(x, 2);
        CHECK.records("a state is not below itself", x, 2003, 2002, 2001, 3001, 1001, 1002, 1003);
    }

    /** A history is below its parent and all that its parent is below: the nearest of these is the domain. */
    private static void domainOfAHistory() {
        for (int kind = 4; kind <= 5; kind++) {
            MicrostepChart x = chain(2);
            x.state(2, 1);
            x.state(2, 1);
            x.state(4, 1);
            x.state(5, kind);
            x.state(5, 1);
            x.transition(3, 1, 6);
            x.transition(7, 2, 6);
            x.transition(5, 3, 6);
            x.begin();
            send(x, 1);
            CHECK.records("1 and 2 stay", x, 2003, 3000, 1004, 1005, 1007);
            send(x, 2);
            CHECK.records("its parent stays too", x, 2007, 3001, 1007);
            send(x, 3);
            CHECK.records("its parent is the source, and no state is below itself", x, 2007, 2005, 3002, 1005, 1007);
        }
    }

    private static void neverRememberedInAPlainState() {
        for (int kind = 4; kind <= 5; kind++) {
            MicrostepChart x = new MicrostepChart();
            x.state(0, 1);
            x.state(0, 1);
            x.state(2, kind);
            x.state(2, 1);
            x.state(2, 1);
            x.state(5, 1);
            x.state(5, 1);
            x.transition(1, 1, 3);
            x.begin();
            send(x, 1);
            CHECK.records("its parent's first child", x, 2001, 3000, 1002, 1004);
            x.reset();
            x.initial(5);
            x.initial(7);
            x.begin();
            send(x, 1);
            CHECK.records("its parent's initial child, and on downwards", x, 2001, 3000, 1002, 1005, 1007);
            CHECK.due("it still remembers nothing", x.remembered(3), 0);
        }
    }

    private static void neverRememberedInAParallelState() {
        for (int kind = 4; kind <= 5; kind++) {
            MicrostepChart x = new MicrostepChart();
            x.state(0, 1);
            x.state(0, 2);
            x.state(2, kind);
            x.state(2, 1);
            x.state(2, 2);
            x.state(5, 1);
            x.state(4, 1);
            x.transition(1, 1, 3);
            x.begin();
            send(x, 1);
            CHECK.records("its parent, and all below", x, 2001, 3000, 1002, 1004, 1005, 1006, 1007);
        }
    }

    /** A history whose parent is the domain does not remember, for the parent is not left. */
    private static void rememberedWhenTheParentIsLeftAlone() {
        MicrostepChart x = new MicrostepChart();
        x.state(0, 1);
        x.state(1, 4);
        x.state(1, 5);
        x.state(1, 1);
        x.state(1, 1);
        x.transition(4, 1, 5);
        x.transition(5, 2, 2);
        x.transition(5, 3, 1);
        x.begin();
        send(x, 1);
        CHECK.due("not left, shallow", x.remembered(2), 0);
        CHECK.due("not left, deep", x.remembered(3), 0);
        send(x, 2);
        CHECK.records("so it stands for the initial child", x, 2005, 3001, 1004);
        CHECK.due("not left, shallow", x.remembered(2), 0);
        send(x, 1);
        send(x, 3);
        CHECK.due("left, shallow", x.remembered(2), 32);
        CHECK.due("left, deep", x.remembered(3), 32);
        send(x, 2);
        CHECK.due("it is 4 that is active, and 2 waits for nothing", x.active(), 2 + 16);
    }

    private static void rememberedAnew() {
        for (int kind = 4; kind <= 5; kind++) {
            MicrostepChart x = new MicrostepChart();
            x.state(0, 1);
            x.state(1, kind);
            x.state(1, 1);
            x.state(1, 1);
            x.state(0, 1);
            x.transition(1, 1, 5);
            x.transition(5, 2, 3);
            x.transition(5, 3, 4);
            x.transition(5, 4, 2);
            x.begin();
            int[] events = {3, 2, 2, 3, 4, 4};
            int[] remembered = {8, 16, 8, 8, 16, 16};
            for (int i = 0; i < events.length; i++) {
                send(x, 1);
                CHECK.due("what was active last, " + i, x.remembered(2), remembered[i]);
                send(x, events[i]);
                CHECK.due("it is kept when its parent is entered, " + i, x.remembered(2), remembered[i]);
            }
            CHECK.due("what it remembers is entered", x.active(), 2 + 16);
        }
    }

    /** Two transitions are kept, and a history has its parent in the exit set of each. */
    private static void rememberedForEachExitSet() {
        for (int kind = 4; kind <= 5; kind++) {
            MicrostepChart x = regions(2);
            for (int s = 2; s <= 3; s++) {
                int inner = x.state(s, 1);
                x.state(inner, 1);
                x.state(inner, kind);
                x.state(s, 1);
                x.transition(inner, 1, inner + 3);
            }
            x.begin();
            send(x, 1);
            CHECK.records("both are left", x, 2009, 2008, 2005, 2004, 3000, 3001, 1007, 1011);
            CHECK.due("in the first exit set", x.remembered(6), 1 << 5);
            CHECK.due("in the second exit set", x.remembered(10), 1 << 9);
        }
    }

    private static void rememberedGreatestState() {
        for (int kind = 4; kind <= 5; kind++) {
            MicrostepChart x = new MicrostepChart();
            x.state(0, 1);
            x.state(0, 1);
            x.state(1, kind);
            for (int s = 4; s <= 15; s++) {
                x.state(1, 1);
            }
            x.transition(4, 1, 15);
            x.transition(1, 2, 2);
            x.transition(2, 3, 3);
            x.begin();
            send(x, 1);
            send(x, 2);
            CHECK.due("state 15", x.remembered(3), 1 << 15);
            send(x, 3);
            CHECK.records("it is entered again", x, 2002, 3002, 1001, 1015);
        }
    }

    private static void rememberedFinalState() {
        for (int kind = 4; kind <= 5; kind++) {
            MicrostepChart x = new MicrostepChart();
            x.state(0, 1);
            x.state(1, 1);
            x.state(1, 3);
            x.state(1, kind);
            x.state(0, 1);
            x.transition(2, 1, 3);
            x.transition(1, 2, 5);
            x.transition(5, 3, 4);
            x.transition(1, 101, -1);
            x.begin();
            send(x, 1);
            send(x, 2);
            CHECK.due("a final state", x.remembered(4), 8);
            CHECK.due("it is done once more", send(x, 3), 2);
            CHECK.records("entered as what it is", x, 2005, 3002, 1001, 1003, 3003);
        }
    }

    private static void rememberedOnlyByTheHistoriesOfThoseLeft() {
        MicrostepChart x = new MicrostepChart();
        x.state(0, 1);
        x.state(1, 1);
        x.state(2, 1);
        x.state(1, 5);
        x.state(2, 5);
        x.state(2, 1);
        x.state(1, 1);
        x.state(7, 4);
        x.state(7, 1);
        x.transition(2, 1, 7);
        x.begin();
        send(x, 1);
        CHECK.due("1 was not left", x.remembered(4), 0);
        CHECK.due("2 was left", x.remembered(5), 8);
        CHECK.due("7 was not left", x.remembered(8), 0);
    }

    /** A final state whose parent's parent is 0: its parent is done, and there is nothing above. */
    private static void doneOfAChildOfZero() {
        MicrostepChart x = new MicrostepChart();
        x.state(0, 1);
        x.state(1, 3);
        x.transition(1, 101, -1);
        CHECK.due("one", x.begin(), 1);
        CHECK.records("101", x, 1001, 1002, 3000);
        CHECK.due("the run goes on", x.outcome(), 1);
    }

    private static void doneOfNoParallelState() {
        MicrostepChart x = new MicrostepChart();
        x.state(0, 1);
        x.state(1, 1);
        x.state(2, 3);
        x.transition(1, 101, -1);
        x.transition(1, 102, -1);
        x.transition(1, 103, -1);
        CHECK.due("one", x.begin(), 1);
        CHECK.records("102 alone", x, 1001, 1002, 1003, 3001);
    }

    /** What waits for a done event is looked for from the active atomic states on, as for any event. */
    private static void doneIsSeenByAnAtomicState() {
        MicrostepChart x = regions(2);
        x.state(2, 3);
        x.state(3, 1);
        x.state(3, 1);
        x.transition(1, 102, -1);
        x.transition(5, 102, 6);
        CHECK.due("one", x.begin(), 1);
        CHECK.records("the state that is done has no part in it", x, 1001, 1002, 1003, 1004, 1005, 2005, 3000, 3001,
                1006);
    }

    private static void doneOnlyWhenEachRegionIs() {
        MicrostepChart x = regions(3);
        for (int s = 2; s <= 4; s++) {
            x.state(s, 1);
            x.state(s, 3);
        }
        for (int s = 2; s <= 4; s++) {
            x.transition(2 * s + 1, s, 2 * s + 2);
            x.transition(1, 100 + s, -1);
        }
        x.transition(1, 101, -1);
        x.begin();
        CHECK.due("one of three", send(x, 4), 2);
        CHECK.records("one of three", x, 2009, 3004, 1010, 3005);
        CHECK.due("two of three", send(x, 2), 2);
        CHECK.records("two of three", x, 2005, 3000, 1006, 3001);
        CHECK.due("all", send(x, 3), 3);
        CHECK.records("all", x, 2007, 3002, 1008, 3003, 3006);
    }

    private static void neverDoneWithARegionWithoutFinal() {
        MicrostepChart x = regions(2);
        x.state(2, 3);
        x.transition(1, 101, -1);
        x.transition(1, 102, -1);
        CHECK.due("an atomic region", x.begin(), 1);
        CHECK.records("102 alone", x, 1001, 1002, 1003, 1004, 3001);
        MicrostepChart z = regions(1);
        z.state(2, 3);
        z.state(1, 1);
        z.transition(1, 101, -1);
        z.transition(1, 102, -1);
        CHECK.due("an atomic region that was made last", z.begin(), 1);
        CHECK.records("102 alone", z, 1001, 1002, 1003, 1004, 3001);
        MicrostepChart y = new MicrostepChart();
        y.state(0, 2);
        y.state(1, 1);
        y.state(1, 2);
        y.state(2, 3);
        y.state(3, 1);
        y.state(5, 3);
        y.transition(1, 101, -1);
        y.transition(1, 102, -1);
        y.transition(1, 103, -1);
        y.transition(1, 105, -1);
        CHECK.due("a parallel region has no final child", y.begin(), 3);
        CHECK.records("all but 101", y, 1001, 1002, 1003, 1004, 1005, 1006, 3001, 3003, 3002);
    }

    private static void neverDoneByAFinalStateFurtherBelow() {
        MicrostepChart x = regions(2);
        x.state(2, 1);
        x.state(4, 3);
        x.state(3, 3);
        x.transition(1, 101, -1);
        x.transition(1, 102, -1);
        x.transition(1, 103, -1);
        x.transition(1, 104, -1);
        CHECK.due("two", x.begin(), 2);
        CHECK.records("104 and 103: the active child of 2 is not final", x, 1001, 1002, 1003, 1004, 1005, 1006, 3003,
                3002);
    }

    /** Each time that a final state is entered it is done anew, by whichever final child of the region. */
    private static void doneAgain() {
        MicrostepChart x = regions(2);
        x.state(2, 3);
        x.state(3, 3);
        x.state(3, 1);
        x.state(3, 3);
        x.initial(6);
        x.transition(6, 1, 5);
        x.transition(6, 2, 7);
        x.transition(3, 103, 6);
        x.transition(1, 101, -1);
        x.begin();
        for (int round = 0; round < 3; round++) {
            int event = 1 + round % 2;
            int entered = event == 1 ? 5 : 7;
            CHECK.due("done, back, and 101 still came", send(x, event), 3);
            CHECK.records("round " + round, x, 2006, 3000 + event - 1, 1000 + entered, 2000 + entered, 2004, 2003, 2002,
                    2001, 3002, 1001, 1002, 1003, 1004, 1006, 3003);
        }
    }

    private static void noEventFirstAndLineToItsEnd() {
        MicrostepChart x = chain(1);
        x.transition(1, 0, -1);
        x.guard(0, 0, 2, 0);
        x.action(0, 1, 0, -1);
        x.transition(1, 1, -1);
        for (int event = 2; event <= 17; event++) {
            x.action(1, 2, event, 0);
        }
        x.transition(1, 9, -1);
        x.action(2, 0, 0, 2);
        x.transition(1, 17, -1);
        x.begin();
        CHECK.due("five", send(x, 1), 5);
        CHECK.records("9, then no event twice, then 17 at the end of the line", x, 3001, 3002, 3000, 3000, 3003);
        CHECK.waiting("all are used up", x, 0, 0, 0);
    }

    private static void raisedBehindThoseThatWait() {
        MicrostepChart x = chain(1);
        for (int event = 1; event <= 4; event++) {
            x.transition(1, event, -1);
        }
        x.action(0, 2, 2, 0);
        x.action(0, 2, 3, 0);
        x.action(1, 2, 4, 0);
        x.begin();
        CHECK.due("four", send(x, 1), 4);
        CHECK.records("4 came last", x, 3000, 3001, 3002, 3003);
    }

    private static void sentWithZeroWaitsForTheNextStep() {
        MicrostepChart x = chain(1);
        x.transition(1, 1, -1);
        x.transition(1, 2, -1);
        x.action(0, 3, 2, 0);
        x.begin();
        x.post(1);
        x.post(3);
        CHECK.due("one", x.step(), 1);
        CHECK.waiting("it waits in the external line", x, 0, 2, 0);
        CHECK.due("behind what was posted", x.step(), 0);
        CHECK.due("now it comes", x.step(), 1);
        CHECK.records("now it comes", x, 3001);
    }

    private static void entryAndExitOfTheSameState() {
        MicrostepChart x = chain(1);
        x.transition(1, 1, 1);
        x.action(101, 0, 0, 1);
        x.action(201, 0, 0, 2);
        x.action(0, 1, 0, 40);
        x.action(0, 0, 1, 5);
        x.action(201, 0, 2, 6);
        x.begin();
        send(x, 1);
        CHECK.records("left, taken, entered", x, 2001, 3000, 1001);
        CHECK.due("the entry came last", x.variable(0), 1);
        CHECK.due("the transition's second", x.variable(1), 5);
        CHECK.due("the exit's second", x.variable(2), 6);
    }
}

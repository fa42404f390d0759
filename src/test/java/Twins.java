/**
 * Two charts made by the same calls. A call that is to be refused goes to the first one alone; then both are asked
 * everything and driven on alike. If they ever answer differently, the refused call has changed something.
 */
final class Twins {
    interface Maker {
        MicrostepChart make();
    }

    interface Call {
        int on(MicrostepChart x);
    }

    interface YesNo {
        boolean on(MicrostepChart x);
    }

    /** The makers use fewer than this, so that all calls on one object stay within the 512 of the document. */
    private static final int CALLS_OF_A_MAKER = 130;

    private final Check check;
    private final String name;
    private final MicrostepChart touched;
    private final MicrostepChart untouched;
    private int calls = 0;

    private Twins(Check check, String name, Maker maker) {
        this.check = check;
        this.name = name;
        touched = maker.make();
        untouched = maker.make();
    }

    static void refused(Check check, String name, Maker maker, int want, Call call) {
        Twins twins = new Twins(check, name, maker);
        check.due(name, call.on(twins.touched), want);
        twins.driveOn();
    }

    static void refused(Check check, String name, Maker maker, YesNo call) {
        refused(check, name, maker, 0, x -> call.on(x) ? 1 : 0);
    }

    private void driveOn() {
        compareViews();
        goOn();
        reset();
        compareViews();
        same("begin", MicrostepChart::begin);
        compareViews();
        goOn();
        reset();
        compareRoomLeft();
        check.due(name + ": calls within the 512", calls <= 512 - CALLS_OF_A_MAKER, true);
    }

    private void goOn() {
        same("tick", x -> x.tick(2));
        for (int event = 1; event <= 4; event++) {
            int posted = event;
            same("post", x -> x.post(posted) ? 1 : 0);
            same("step", MicrostepChart::step);
            same("active", MicrostepChart::active);
        }
        same("tick", x -> x.tick(50));
        same("step", MicrostepChart::step);
        compareViews();
    }

    private void reset() {
        calls++;
        touched.reset();
        untouched.reset();
    }

    private void same(String what, Call call) {
        calls++;
        check.due(name + ", and then " + what, call.on(touched), call.on(untouched));
    }

    private void compareViews() {
        same("outcome", MicrostepChart::outcome);
        same("active", MicrostepChart::active);
        for (int s = 1; s <= 15; s++) {
            int history = s;
            same("remembered", x -> x.remembered(history));
        }
        for (int v = 0; v <= 3; v++) {
            int variable = v;
            same("variable", x -> x.variable(variable));
        }
        for (int w = 0; w <= 2; w++) {
            int which = w;
            same("waiting", x -> x.waiting(which));
        }
        compareRecords();
    }

    private void compareRecords() {
        boolean more = true;
        for (int i = 0; i <= 200 && more; i++) {
            int place = i;
            same("listed", x -> x.listed(place));
            more = untouched.listed(place) != -1;
            calls++;
        }
    }

    private void compareRoomLeft() {
        same("state", x -> x.state(0, 1));
        same("transition", x -> x.transition(1, 1, -1));
        for (int i = 0; i <= 32; i++) {
            same("action", x -> x.action(101, 0, 0, 0) ? 1 : 0);
        }
    }
}

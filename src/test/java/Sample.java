/** A chart with something of everything, brought to each time of its life. */
final class Sample {
    static final int STATES = 12;
    static final int TRANSITIONS = 9;
    static final int SHALLOW = 8;
    static final int DEEP = 2;
    static final int FINAL = 10;
    static final int PARALLEL = 5;

    private Sample() {
    }

    static MicrostepChart building() {
        MicrostepChart x = new MicrostepChart();
        x.state(0, 1);
        x.state(1, 5);
        x.state(1, 1);
        x.state(1, 1);
        x.state(0, 2);
        x.state(5, 1);
        x.state(5, 1);
        x.state(5, 4);
        x.state(6, 1);
        x.state(6, 3);
        x.state(0, 3);
        x.state(7, 1);
        x.transition(3, 1, 4);
        x.transition(1, 2, 8);
        x.transition(5, 4, 2);
        x.transition(1, 5, 11);
        x.transition(1, 6, -1);
        x.transition(1, 7, -1);
        x.transition(9, 3, 10);
        x.transition(5, 106, -1);
        x.transition(4, 1, 3);
        x.guard(0, 0, 2, 0);
        x.guard(7, 0, 3, 12);
        giveActions(x);
        return x;
    }

    private static void giveActions(MicrostepChart x) {
        x.action(103, 1, 0, 1);
        x.action(204, 1, 1, 10);
        x.action(0, 3, 2, 3);
        x.action(0, 3, 9, 0);
        x.action(4, 2, 6, 0);
        x.action(5, 2, 7, 0);
        x.action(5, 2, 7, 0);
        x.action(7, 0, 3, Integer.MIN_VALUE);
        x.action(3, 3, 1, 50);
        x.action(3, 2, 8, 0);
    }

    static MicrostepChart goingOn() {
        MicrostepChart x = building();
        x.begin();
        x.post(1);
        x.step();
        return x;
    }

    private static MicrostepChart ended(int event) {
        MicrostepChart x = building();
        x.begin();
        x.post(event);
        x.post(9);
        x.step();
        return x;
    }

    static MicrostepChart finished() {
        return ended(5);
    }

    static MicrostepChart outOfFuel() {
        return ended(6);
    }

    static MicrostepChart outOfRoom() {
        return ended(7);
    }

    static MicrostepChart afterReset() {
        MicrostepChart x = goingOn();
        x.reset();
        return x;
    }
}

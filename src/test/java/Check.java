/** Counts the answers that are not as due, and ends a test with exit code 1 if there was one. */
final class Check {
    private int wrong = 0;
    private int made = 0;

    void due(String call, long got, long want) {
        made++;
        if (got != want) {
            wrong++;
            System.out.println(call + " answered " + got + ", due is " + want);
        }
    }

    void due(String call, boolean got, boolean want) {
        due(call, got ? 1 : 0, want ? 1 : 0);
    }

    /** The whole list of records, and that nothing stands behind it. */
    void records(String where, MicrostepChart x, int... want) {
        for (int i = 0; i < want.length; i++) {
            due(where + ": listed(" + i + ")", x.listed(i), want[i]);
        }
        due(where + ": listed(" + want.length + ")", x.listed(want.length), -1);
    }

    void waiting(String where, MicrostepChart x, int internal, int external, int sent) {
        due(where + ": waiting(0)", x.waiting(0), internal);
        due(where + ": waiting(1)", x.waiting(1), external);
        due(where + ": waiting(2)", x.waiting(2), sent);
    }

    void end(String name) {
        System.out.println(name + ": " + made + " answers, " + wrong + " not as due");
        if (wrong != 0) {
            System.exit(1);
        }
    }
}

/** Holds answers against those that are due, prints each that is not, and ends the test. */
final class Due {
    private static final int MOST_PRINTED = 50;
    private final String test;
    private String part = "";
    private int held;
    private int wrong;

    Due(String test) {
        this.test = test;
    }

    /** What is held from here on belongs to this part of the test. */
    void begin(String newPart) {
        part = newPart + ": ";
    }

    int held() {
        return held;
    }

    void is(String call, long got, long want) {
        held++;
        if (got != want) {
            wrong++;
            if (wrong <= MOST_PRINTED) {
                System.out.println(test + ": " + part + call + " answered " + got + ", due is " + want);
            }
        }
    }

    void is(String call, boolean got, boolean want) {
        is(call, got ? 1 : 0, want ? 1 : 0);
    }

    /** The chain (what 0) or the circle (1) is these numbers, and the other one is not there. */
    void row(String name, TightDesk desk, int what, int... numbers) {
        for (int i = 0; i < numbers.length; i++) {
            is(name + ": row(" + what + ", " + i + ")", desk.row(what, i), numbers[i]);
        }
        is(name + ": the row's end", desk.row(what, numbers.length), TightDesk.NONE);
        is(name + ": ahead of the row", desk.row(what, -1), TightDesk.NONE);
        is(name + ": how many", desk.count(7 + what), numbers.length);
        is(name + ": of the other row", desk.count(8 - what), 0);
        is(name + ": the other row", desk.row(1 - what, 0), TightDesk.NONE);
    }

    /** The earliest (what 0), latest, slack, free of each task. */
    void starts(String name, TightDesk desk, int what, int... starts) {
        for (int t = 0; t < starts.length; t++) {
            is(name + ": start(" + t + ", " + what + ")", desk.start(t, what), starts[t]);
        }
    }

    void workers(String name, TightDesk desk, int... workers) {
        for (int t = 0; t < workers.length; t++) {
            is(name + ": workerOf(" + t + ")", desk.workerOf(t), workers[t]);
        }
    }

    void cover(String name, TightDesk desk, int side, int... in) {
        for (int i = 0; i < in.length; i++) {
            is(name + ": cover(" + side + ", " + i + ")", desk.cover(side, i), in[i]);
        }
    }

    boolean allRight() {
        return wrong == 0;
    }

    void end() {
        System.out.println(test + ": " + held + " answers held, " + wrong + " wrong");
        if (wrong != 0) {
            System.exit(1);
        }
    }
}

/** Holds answers against those that are due, prints each that is not, and ends the test. */
final class Due {
    private static final int MOST_PRINTED = 50;
    private final String test;
    private int held;
    private int wrong;

    Due(String test) {
        this.test = test;
    }

    void is(String call, long got, long want) {
        held++;
        if (got != want) {
            wrong++;
            if (wrong <= MOST_PRINTED) {
                System.out.println(test + ": " + call + " answered " + got + ", due is " + want);
            }
        }
    }

    void is(String call, boolean got, boolean want) {
        is(call, got ? 1 : 0, want ? 1 : 0);
    }

    boolean allRight() {
        return wrong == 0;
    }

    void end() {
        System.out.println(test + ": " + held + " answers held, " + wrong + " wrong");
        if (wrong != 0) {
            System.exit(1);
        }
    }
}

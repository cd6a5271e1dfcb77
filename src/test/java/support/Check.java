/** Counts answers that are not as due, and ends the program with 1 if there was one. */
final class Check {
    private static final int MOST_SHOWN = 40;
    private int asked = 0;
    private int wrong = 0;

    void due(String call, long got, long want) {
        asked++;
        if (got != want) {
            fail(call + " answered " + got + ", due is " + want);
        }
    }

    void due(String call, boolean got, boolean want) {
        due(call, got ? 1 : 0, want ? 1 : 0);
    }

    void fail(String what) {
        wrong++;
        if (wrong <= MOST_SHOWN) {
            System.out.println(what);
        }
    }

    int wrong() {
        return wrong;
    }

    void end() {
        System.out.println(wrong == 0 ? asked + " answers, all as due" : wrong + " answers of " + asked + " are not as due");
        if (wrong != 0) {
            System.exit(1);
        }
    }
}

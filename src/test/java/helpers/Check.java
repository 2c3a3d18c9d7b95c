/** Counts answers that are not the ones that are due. */
final class Check {
    private static final int MOST_SHOWN = 40;
    private int asked = 0;
    private int wrong = 0;

    void due(String call, long got, long want) {
        asked++;
        if (got != want) {
            fail(call + " answered " + got + ", due is " + want);
        }
    }

    void due(String call, boolean got, boolean want) {
        due(call, got ? 1 : 0, want ? 1 : 0);
    }

    void fail(String what) {
        wrong++;
        if (wrong <= MOST_SHOWN) {
            System.out.println(what);
        }
    }

    int wrong() {
        return wrong;
    }

    void finish() {
        System.out.println(asked + " answers asked, " + wrong + " of them not as due");
        if (wrong != 0) {
            System.exit(1);
        }
    }
}

/** Counts answers that are not as due; a test ends with exit code 1 if there was one. */
final class Check {
    /** A broken class answers wrongly a thousand times: the first ones tell enough. */
    private static final int MOST_SHOWN = 40;

    private int looked = 0;
    private int wrong = 0;

    void due(String call, long got, long want) {
        looked++;
        if (got != want) {
            tell(call + " answered " + got + ", due is " + want);
        }
    }

    void alike(String what, String got, String want) {
        looked++;
        if (!got.equals(want)) {
            tell(what + " is " + got + ", due is " + want);
        }
    }

    void that(String what, boolean holds) {
        due(what, holds ? 1 : 0, 1);
    }

    boolean allRight() {
        return wrong == 0;
    }

    void end(String name) {
        System.out.println(name + ": " + looked + " answers, " + wrong + " wrong");
        if (wrong != 0 || looked == 0) {
            System.exit(1);
        }
    }

    private void tell(String line) {
        wrong++;
        if (wrong <= MOST_SHOWN) {
            System.out.println(line);
        }
    }
}

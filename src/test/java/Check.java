/** Counts and prints the answers that are not as due. */
final class Check {
    private static final int PRINTED_AT_MOST = 40;
    private int wrong = 0;
    private int asked = 0;

    void due(String what, long got, long want) {
        asked++;
        if (got != want) {
            wrong++;
            if (wrong <= PRINTED_AT_MOST) {
                System.out.println(what + " answered " + got + ", due is " + want);
            }
        }
    }

    void holds(String what, boolean isSo) {
        due(what, isSo ? 1 : 0, 1);
    }

    boolean isWell() {
        return wrong == 0;
    }

    /** Ends the test with exit code 1 if an answer was wrong. */
    void end(String test) {
        System.out.println(test + ": " + asked + " answers, " + wrong + " not as due");
        if (wrong != 0) {
            System.exit(1);
        }
    }
}

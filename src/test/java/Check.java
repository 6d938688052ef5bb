import java.util.BitSet;

/** Counts and prints the answers that are not as due. A label begins with the numbers of its promises: "8, 9: ..". */
final class Check {
    private static final int PRINTED_AT_MOST = 40;
    private int wrong = 0;
    private int asked = 0;
    private final BitSet promises = new BitSet();

    void due(String what, long got, long want) {
        asked++;
        notePromises(what);
        if (got != want) {
            wrong++;
            if (wrong <= PRINTED_AT_MOST) {
                System.out.println(what + " answered " + got + ", due is " + want);
            }
        }
    }

    void holds(String what, boolean isSo) {
        due(what, isSo ? 1 : 0, 1);
    }

    boolean isWell() {
        return wrong == 0;
    }

    private void notePromises(String what) {
        int number = 0;
        for (int i = 0; i < what.length(); i++) {
            char sign = what.charAt(i);
            if (sign >= '0' && sign <= '9') {
                number = 10 * number + sign - '0';
            } else if (sign == ',' || sign == ':') {
                promises.set(number);
                number = 0;
            }
            if (sign == ':' || sign != ',' && sign != ' ' && (sign < '0' || sign > '9')) {
                return;
            }
        }
    }

    /** Ends the test with exit code 1 if an answer was wrong. */
    void end(String test) {
        System.out.println(test + ": " + asked + " answers, " + wrong + " not as due");
        if (wrong != 0) {
            System.exit(1);
        }
    }

    /** Ends the test so, too, if nothing was asked under the number of one of these promises. */
    void end(String test, int first, int last) {
        for (int promise = first; promise <= last; promise++) {
            holds("a test of promise " + promise, promises.get(promise));
        }
        end(test);
    }
}

import java.util.ArrayList;
import java.util.List;
import java.util.function.Supplier;

/** Two objects made alike, of which one is asked more: what it was asked must have changed nothing. */
final class Twins {
    /** A call on an object. */
    interface Act {
        long on(KingsYear x);
    }

    /** A call on an object with arguments that are told. */
    interface Asked {
        long on(KingsYear x, int[] a);
    }

    private static final int[] SOME_YEARS = {0, 1, 2, 3, 5, 28, 29};
    private static final int ITEMS_AT_MOST = 7;

    private final Check check;

    Twins(Check check) {
        this.check = check;
    }

    /** A refusal: the answer is as due; nothing changes, but count(8) by a finding. */
    void refused(String what, Supplier<KingsYear> maker, Act act, long due) {
        int finding = due <= Kings.NULL && due >= Kings.SIZE ? (int) (-10 - due) : 0;
        refused(what, maker, act, due, finding);
    }

    /** The finding is 0 if there is none. */
    void refused(String what, Supplier<KingsYear> maker, Act act, long due, int finding) {
        KingsYear asked = maker.get();
        KingsYear other = maker.get();
        check.due(what, act.on(asked), due);
        int before = other.count(8);
        check.due(what + ", then count(8)", asked.count(8), finding == 0 ? before : finding);
        compare(what + ", then", asked, other);
    }

    /** A call that is well, and changes nothing. */
    void asksOnly(String what, Supplier<KingsYear> maker, Act act) {
        KingsYear asked = maker.get();
        KingsYear other = maker.get();
        check.holds(what + " is well", act.on(asked) != Kings.BAD);
        check.due(what + ", then count(8)", asked.count(8), other.count(8));
        compare(what + ", then", asked, other);
    }

    /** Each argument is well at both its ends; beyond them, near and far, the call is refused as BAD. */
    void ends(String what, Supplier<KingsYear> maker, int[][] ends, long bad, Asked asked) {
        for (int k = 0; k < ends.length; k++) {
            int least = ends[k][0];
            int most = ends[k][1];
            for (int well : ends[k]) {
                int[] a = leastOnes(ends, k, well);
                check.holds(what + " is well with argument " + k + " = " + well, asked.on(maker.get(), a) != bad);
            }
            for (long wrong : new long[] {least - 1L, most + 1L, Kings.FAR_DOWN, Kings.FAR_UP}) {
                boolean isInt = wrong == (int) wrong;
                if (isInt && (wrong < least || wrong > most)) {
                    int[] a = leastOnes(ends, k, (int) wrong);
                    refused(what + " with argument " + k + " = " + wrong, maker, x -> asked.on(x, a), bad, 0);
                }
            }
        }
    }

    private static int[] leastOnes(int[][] ends, int k, int value) {
        int[] a = new int[ends.length];
        for (int i = 0; i < a.length; i++) {
            a[i] = i == k ? value : ends[i][0];
        }
        return a;
    }

    /** Asks both for all that they hold, and takes it from them on the way. */
    private void compare(String what, KingsYear asked, KingsYear other) {
        List<Long> got = all(asked);
        List<Long> due = all(other);
        check.due(what + " how many answers", got.size(), due.size());
        for (int i = 0; i < Math.min(got.size(), due.size()); i++) {
            check.due(what + " answer " + i + " of its state", got.get(i), due.get(i));
        }
    }

    private static List<Long> all(KingsYear x) {
        List<Long> row = new ArrayList<>(plans(x));
        for (int what = 0; what < 8; what++) {
            row.add((long) x.count(what));
        }
        row.add((long) x.fault(0));
        row.add((long) x.fault(1));
        row.add(x.digest());
        for (int s = 0; s < 4; s++) {
            addSheet(row, x, s);
        }
        addLogs(row, x);
        row.add((long) x.forget());
        for (int text = 0; text < 2; text++) {
            row.add((long) x.undo(text));
            row.add((long) x.fault(text));
            row.add((long) x.wipe(text));
        }
        return row;
    }

    /** What follows from laws, wants, trials, breaches and seen, by whatever texts they were told. */
    static List<Long> plans(KingsYear x) {
        List<Long> row = new ArrayList<>();
        for (int year : SOME_YEARS) {
            for (int what = 0; what < 3; what++) {
                row.add((long) x.binds(year, what));
            }
            row.add((long) x.joy(year, 0));
            row.add((long) x.quarrels(year, 1));
            row.add((long) x.keep(year, 0));
        }
        for (int hour = 0; hour < 24; hour++) {
            row.add((long) x.does(4, hour));
        }
        for (int what = 0; what < 3; what++) {
            row.add((long) x.sets(what));
        }
        row.add((long) x.watch());
        row.add((long) x.order(1, 7, Kings.NONE));
        row.add((long) x.years(11, 9, 1));
        row.add((long) x.law(0, 1));
        row.add((long) x.want(0, 2));
        return row;
    }

    /** Items of each form it may have: those of another, and beyond its end, tell by count(8). */
    private static void addSheet(List<Long> row, KingsYear x, int s) {
        for (int form = 0; form < 3; form++) {
            for (int i = -1; i < ITEMS_AT_MOST; i++) {
                row.add((long) x.get(s, form, i));
            }
            row.add((long) x.count(8));
        }
        row.add((long) x.lose(s));
    }

    private static void addLogs(List<Long> row, KingsYear x) {
        for (int what = 0; what < 2; what++) {
            for (int k = 0; k < 13; k++) {
                row.add((long) x.back(1 - what));
                row.add((long) x.binds(29, 0));
                row.add((long) x.binds(29, 2));
            }
        }
    }
}

/** Promises 15 to 17 at the bounds that the document names: the last input that is well, the first that is refused. */
public final class PlanBoundsTest {
    private static final int NONE = Kings.NONE, BAD = Kings.BAD;
    private static final Check CHECK = new Check();
    private static final Twins TWINS = new Twins(CHECK);

    public static void main(String[] args) {
        exemptNumbers();
        exemptions();
        exemptionsByYears();
        keepNumbers();
        keeping();
        orderNumbers();
        ordersOfHowMany();
        ordersToTheLastYear();
        ordersOfLaws();
        likeOrders();
        ordersInPlaceOfTrials();
        ordersAndBreaches();
        CHECK.end("PlanBoundsTest", 15, 17);
    }

    private static void due(String what, long got, long want) {
        CHECK.due(what, got, want);
    }

    // ---- promise 15: "EXEMPT: how many (what = 0), as bits (1); NONE. BAD." A DEED is 0 to 5, or NONE: nothing.

    private static void exemptNumbers() {
        TWINS.ends("15: exempt", Kings::rich, new int[][] {{0, 29}, {0, 23}, {-1, 5}, {0, 1}}, BAD, (x, a) -> x.exempt(a[0], a[1], a[2], a[3]));
        TWINS.refused("15: a clash is no deed to be exempted for", () -> Kings.tried("mAaa;nAaa", ""), x -> x.exempt(0, 0, 6, 0), BAD);
        TWINS.asksOnly("15: exempt", Kings::rich, x -> x.exempt(3, 8, 1, 1));
        TWINS.asksOnly("15: exempt of twelve", Kings::crowded, x -> x.exempt(5, 0, NONE, 0));
    }

    private static void exempt(String what, KingsYear x, int deed, int bits) {
        due("15: as bits, " + what, x.exempt(0, 0, deed, 1), bits);
        due("15: how many, " + what, x.exempt(0, 0, deed, 0), bits == NONE ? NONE : Integer.bitCount(bits));
    }

    private static void exemptions() {
        exempt("nothing, without laws or wants", new KingsYear(), NONE, 0);
        exempt("a deed, without laws or wants", new KingsYear(), 0, NONE);
        exempt("what he does anyway", Kings.tried("mFaa", ""), 5, 0);
        exempt("what he wants anyway", Kings.tried("nAaa", "Fa1"), 5, 0);
        exempt("what he neither wants nor must", Kings.tried("mFaa;nAaa", "Fa1"), 4, NONE);
        exempt("all twelve bans", Kings.tried(Kings.times("nAaa", 12), "Aa1"), 0, 4095);
        exempt("all twelve orders", Kings.tried(Kings.times("mAaa", 12), "Ba1"), 1, 4095);
        exempt("all twelve for nothing", Kings.tried(Kings.times("mAaa", 12), ""), NONE, 4095);
        exempt("nothing, while he wants something", Kings.tried("mAaa", "Ba1"), NONE, NONE);
        exempt("nothing, as all that he wants is forbidden", Kings.tried("nBaa;mAaa;nCaa", "Ba1;Ca9"), NONE, 2);
        exempt("an order, out of a clash", Kings.tried("mAaa;mBaa", ""), 0, 2);
        exempt("the other, out of a clash", Kings.tried("mAaa;mBaa", ""), 1, 1);
        exempt("a ban, out of a clash", Kings.tried("mAaa;nAaa", ""), 0, 2);
        exempt("nothing, out of a clash", Kings.tried("mAaa;nAaa", ""), NONE, 1);
        exempt("a ban helps to what he likes less", Kings.tried("nAaa;nBaa", "Aa5;Ba9"), 0, 1);
        exempt("what he likes less cannot be", Kings.tried("nAaa", "Aa5;Ba9"), 0, NONE);
        exempt("of like ones the least is done", Kings.tried("nAaa", "Aa5;Ba5"), 0, 1);
        exempt("of like ones the greater cannot be", Kings.tried("mCaa", "Aa5;Ba5"), 1, NONE);
        exempt("laws of other hours stay", Kings.tried("nAbx;nAaa;mBbb", "Aa1"), 0, 2);
        exempt("past midnight", Kings.tried("nAxa;nAbx", "Aa1"), 0, 1);
    }

    private static void exemptionsByYears() {
        KingsYear x = Kings.with("nAaa;nAaa", "Aa1");
        x.trial(3, 0);
        x.trial(29, 1);
        x.breach(3, 0);
        due("15: none binds yet", x.exempt(2, 0, 0, 1), 0);
        due("15: in the year of its trial", x.exempt(3, 0, 0, 1), 1);
        due("15: lapsed", x.exempt(4, 0, 0, 1), 0);
        due("15: in the last year", x.exempt(29, 0, 0, 1), 2);
        due("15: in the last hour", Kings.tried("nAxx", "Ax1").exempt(0, 23, 0, 1), 1);
    }

    // ---- promise 16: "KEEP: as bits (what = 0), JOY (1). BAD."

    private static void keepNumbers() {
        TWINS.ends("16: keep", Kings::rich, new int[][] {{0, 29}, {0, 1}}, BAD, (x, a) -> x.keep(a[0], a[1]));
        TWINS.asksOnly("16: keep", Kings::rich, x -> x.keep(3, 0));
        TWINS.asksOnly("16: joy of keep", Kings::crowded, x -> x.keep(5, 1));
    }

    private static void keep(String what, KingsYear x, int bits, int joy) {
        due("16: as bits, " + what, x.keep(0, 0), bits);
        due("16: joy, " + what, x.keep(0, 1), joy);
    }

    private static void keeping() {
        keep("none binds", new KingsYear(), 0, 0);
        keep("none binds, but he wants", Kings.with("mAaa", "Ba7"), 0, 7);
        keep("all twelve", Kings.tried(Kings.times("mAaa", 12), "Aa3;Ba9"), 4095, 3);
        keep("one of six", Kings.tried("mAax;mBax;mCax;mDax;mEax;mFax", ""), 1, 0);
        keep("one of six, by joy", Kings.tried("mAax;mBax;mCax;mDax;mEax;mFax", "Fx1"), 32, 1);
        keep("the most before joy", Kings.tried("mAaa;mBaa;mBaa", "Aa9"), 6, 0);
        keep("of like many by joy", Kings.tried("mAaa;mBaa", "Aa3;Ba4"), 2, 4);
        keep("of like joy the least bits", Kings.tried("mAaa;mBaa", "Aa4;Ba4"), 1, 4);
        keep("of like joy the least bits, whichever law is the first", Kings.tried("mAaa;mBaa;mBaa;mAaa", "Aa4;Ba4"), 6, 4);
        keep("of more joy the greater bits", Kings.tried("mAaa;mBaa;mBaa;mAaa", "Aa5;Ba3"), 9, 5);
        keep("of twelve in pairs the least bits", Kings.tried("nAaa;mAaa;nAbb;mAbb;nAcc;mAcc;nAdd;mAdd;nAee;mAee;nAff;mAff", ""), 0b010101010101, 0);
        keep("a clash in one hour of all", Kings.tried("mAax;nAxx;nBax", ""), 5, 0);
        keep("a clash past midnight", Kings.tried("mAxa;nAab;nBax;nCax", "Aa2"), 13, 2);
        KingsYear late = Kings.with("mAaa;mBaa", "Ba2");
        late.trial(0, 0);
        late.trial(29, 1);
        due("16: before the other is tried", late.keep(28, 0) * 10 + late.keep(28, 1), 10);
        due("16: in the year of its trial", late.keep(29, 0) * 10 + late.keep(29, 1), 22);
    }

    // ---- promise 17: "ORDER: how much (i = NONE), the i-th LAW (0 to 3; NONE). BAD: also beyond YEAR 29."

    private static void orderNumbers() {
        TWINS.ends("17: order of one law", Kings::rich, new int[][] {{1, 1}, {0, 29}, {-1, 3}}, BAD, (x, a) -> x.order(a[0] == 1 ? 1 : 0, a[1], a[2]));
        TWINS.ends("17: order of four laws", Kings::rich, new int[][] {{0, 26}, {-1, 3}}, BAD, (x, a) -> x.order(15, a[0], a[1]));
        for (int i = NONE; i < 4; i++) {
            int asked = i;
            TWINS.asksOnly("17: order, " + i, Kings::rich, x -> x.order(15, 20, asked));
            TWINS.asksOnly("17: order of twelve, " + i, Kings::crowded, x -> x.order(0xf00, 2, asked));
        }
        for (int laws : new int[] {0, 64, 65, 128, 4096, -1, -64, Kings.FAR_DOWN, Kings.FAR_UP, 1 << 30, 31, 63}) {
            TWINS.refused("17: order of laws " + laws, Kings::rich, x -> x.order(laws, 0, NONE), BAD);
        }
        TWINS.refused("17: no laws", KingsYear::new, x -> x.order(1, 0, NONE), BAD);
        TWINS.refused("17: laws with a fault", () -> Kings.with("mAaa;", ""), x -> x.order(1, 0, NONE), BAD);
    }

    private static void ordersOfHowMany() {
        KingsYear x = Kings.with(Kings.times("mAaa", 12), "Aa1");
        int[] sets = {1 << 11, 3 << 10, 7 << 9, 15 << 8};
        for (int many = 1; many <= 4; many++) {
            int laws = sets[many - 1];
            due("17: joy of so many years as laws", x.order(laws, 0, NONE), many);
            for (int i = 0; i < 4; i++) {
                due("17: law " + i + " of " + many, x.order(laws, 0, i), i < many ? 12 - many + i : NONE);
            }
            due("17: there is no fifth of " + many, x.order(laws, 0, 4), BAD);
        }
        due("17: five are too many", x.order(31 << 7, 0, NONE), BAD);
        due("17: twelve are too many", x.order(4095, 0, NONE), BAD);
        due("17: the last law that there is", x.order(1 << 11, 0, 0), 11);
        due("17: the first that there is not", x.order(1 << 12, 0, 0), BAD);
    }

    private static void ordersToTheLastYear() {
        KingsYear x = Kings.with(Kings.times("mAaa", 12), "Aa1");
        for (int many = 1; many <= 4; many++) {
            int laws = (1 << many) - 1;
            due("17: to year 29", x.order(laws, 30 - many, NONE), many);
            due("17: the last law to year 29", x.order(laws, 30 - many, many - 1), many - 1);
            for (int year : new int[] {31 - many, 29, 30, Kings.FAR_UP}) {
                if (year + (long) many > 30) {
                    due("17: beyond year 29", x.order(laws, year, NONE), BAD);
                    due("17: beyond year 29, a law that is not in it", x.order(laws, year, 3), BAD);
                }
            }
        }
    }

    private static void ordersOfLaws() {
        KingsYear three = Kings.with("mAaa;mBaa;mCaa", "");
        due("17: the last of three", three.order(4, 0, 0), 2);
        due("17: all three", three.order(7, 0, 2) >= 0 ? 1 : 0, 1);
        due("17: no fourth is there", three.order(8, 0, 0), BAD);
        due("17: nor with others", three.order(15, 0, 0), BAD);
        Kings.typeAll(three, 0, ";mDaa");
        due("17: now it is", three.order(8, 0, 0), 3);
    }

    /** "of like ones the least row": the first law least, then the second. */
    private static void likeOrders() {
        KingsYear x = Kings.with("nBaa;nBaa;nAaa;nBaa", "Aa5");
        due("17: the harm comes last", x.order(15, 0, NONE), 15);
        due("17: the others from the least on", row(x, 15, 0), 132 + 0);
        due("17: two alike", row(x, 3, 0), 1);
        due("17: no joy at all", row(Kings.with(Kings.times("nAaa", 4), ""), 15, 0), 123);
        KingsYear best = Kings.with("nAaa;nBaa;nCaa;nDaa", "Aa9;Ba8;Ca7;Da6");
        due("17: how much", best.order(15, 0, NONE), 9 + 9 + 9 + 0);
        due("17: of like ones the least", row(best, 15, 0), 1230);
    }

    private static int row(KingsYear x, int laws, int year) {
        int row = 0;
        for (int i = 0; i < Integer.bitCount(laws); i++) {
            row = 10 * row + x.order(laws, year, i);
        }
        return row;
    }

    private static void ordersInPlaceOfTrials() {
        KingsYear x = Kings.with("nAaa;nBaa;nCaa", "Aa9;Ba5;Ca1");
        x.trial(0, 0);
        x.trial(0, 1);
        due("17: told trials of these are nothing", x.order(3, 5, NONE), 9 + 1);
        due("17: their row", row(x, 3, 5), 10);
        due("17: a told trial of another counts", x.order(1, 5, NONE), 1);
        x.trial(6, 2);
        due("17: from its year on", x.order(3, 5, NONE), 9 + 0);
        due("17: not before", x.order(3, 4, NONE), 9 + 1);
        due("17: told trials stay as they are", x.binds(5, 0) * 10 + x.binds(6, 0), 37);
        KingsYear first = Kings.with("nBaa;nAaa;nCaa", "Aa9;Ba5;Ca1");
        first.trial(0, 1);
        due("17: nothing in any of these years, the best row being the least", first.order(3, 5, NONE), 9 + 1);
        due("17: that row", row(first, 3, 5), 1);
        KingsYear full = Kings.with("nAaa;nBaa", "Aa9;Ba5");
        for (int k = 0; k < 12; k++) {
            full.trial(0, k);
        }
        due("17: with trials full", full.order(3, 28, NONE), 9);
    }

    private static void ordersAndBreaches() {
        KingsYear x = Kings.with("nAaa;nBaa", "Aa9;Ba5");
        x.trial(0, 1);
        x.breach(0, 1);
        due("17: it lapses by the year of its trial told no more", x.order(3, 5, NONE), 9 + 0);
        x.trial(0, 0);
        x.breach(0, 0);
        due("17: nor does the other", x.order(3, 5, NONE), 9 + 0);
        x.breach(5, 1);
        due("17: by a breach in the year in which it is tried", x.order(3, 5, NONE), 9 + 5);
        due("17: in another order it is tried in another year", x.order(3, 4, NONE), 9 + 0);
        KingsYear leaning = Kings.with("mBaa1;nAaa", "Aa9;Ba5");
        due("17: leaning on one of these", leaning.order(3, 0, NONE), 9 + 5);
        due("17: leaning on one that is not tried", leaning.order(1, 0, NONE), 9);
        leaning.trial(0, 1);
        due("17: leaning on one told before", leaning.order(1, 3, NONE), 5);
    }
}

import java.util.Arrays;

/** Promises 18 to 24 at the bounds that the document names: the last input that is well, the first that is refused. */
public final class SeenBoundsTest {
    private static final int NONE = Kings.NONE, BAD = Kings.BAD, FULL = Kings.FULL, NULL = Kings.NULL;
    private static final int CLASH = 6;
    // Law k forbids A in hour k, and so takes 2 from joy.
    private static final String ONE_AN_HOUR = "nAaa;nAbb;nAcc;nAdd;nAee;nAff;nAgg;nAhh;nAii;nAjj;nAkk;nAll";
    private static final String WANTED = "Aa2;Ab2;Ac2;Ad2;Ae2;Af2;Ag2;Ah2;Ai2;Aj2;Ak2;Al2";
    private static final Check CHECK = new Check();
    private static final Twins TWINS = new Twins(CHECK);

    public static void main(String[] args) {
        seenNumbers();
        seenToTheEnd();
        forgetting();
        readNumbers();
        readsWholePairs();
        readsWhatMayBe();
        readsEachForm();
        setNumbers();
        sets();
        setsOfNone();
        watching();
        goutNumbers();
        goutEnds();
        goutOfTwelve();
        goutOfUnlikeDeeds();
        goutOfLikeOnes();
        goutAddsUp();
        yearNumbers();
        lots();
        lotsOfYears();
        CHECK.end("SeenBoundsTest", 18, 24);
    }

    private static void due(String what, long got, long want) {
        CHECK.due(what, got, want);
    }

    // ---- promise 18: "SEEN more: how many. BAD; FULL." 8 at most; a DEED (0 to 5), or nothing (NONE)

    private static void seenNumbers() {
        TWINS.ends("18: seen", Kings::rich, new int[][] {{0, 23}, {-1, 5}}, BAD, (x, a) -> x.seen(a[0], a[1]));
        TWINS.refused("18: a clash is not seen", Kings::rich, x -> x.seen(0, 6), BAD);
        TWINS.refused("18: both wrong", Kings::rich, x -> x.seen(24, 6), BAD);
        KingsYear x = Kings.with("mFxx", "");
        x.seen(23, 5);
        due("18: the last hour, the last deed", x.sets(1), 1);
    }

    private static void seenToTheEnd() {
        KingsYear x = Kings.with("mAaa;mBbb", "");
        for (int n = 1; n <= 7; n++) {
            due("18: seen " + n, x.seen(2, NONE), n);
        }
        due("18: the last that is well", x.seen(1, 1), 8);
        due("18: it counts", x.sets(0) * 10 + x.sets(1), 22);
        due("18: the first that is refused", x.seen(0, 0), FULL);
        due("18: and again", x.seen(0, 0), FULL);
        due("18: it tells nothing", x.sets(0) * 10 + x.sets(1), 22);
        TWINS.refused("18: a ninth", Kings::crowded, y -> y.seen(5, 5), FULL);
        TWINS.refused("18: BAD comes before FULL, the hour", Kings::crowded, y -> y.seen(24, 0), BAD);
        TWINS.refused("18: BAD comes before FULL, the deed", Kings::crowded, y -> y.seen(0, -2), BAD);
        due("18, 19: forgotten, there is room", x.forget() * 10 + x.seen(0, 0), 81);
    }

    // ---- promise 19: "All SEEN are forgotten: how many."

    private static void forgetting() {
        TWINS.asksOnly("19: nothing to forget", () -> Kings.tried("mAaa", ""), x -> x.forget());
        KingsYear x = Kings.crowded();
        due("19: all eight", x.forget(), 8);
        due("19: none", x.forget(), 0);
        due("19: none is left", x.count(6), 0);
        due("19: all sets again", x.sets(0), 4096);
        due("19: laws, trials and breaches stay", x.count(0) * 10000 + x.count(4) * 100 + x.count(5), 121212);
    }

    // ---- promise 20: "SEEN from a SHEET: its items, two for each, as many as are whole, as long as each may be: how many. BAD; NULL."

    private static void readNumbers() {
        TWINS.ends("20: read", Kings::rich, new int[][] {{0, 3}}, BAD, (x, a) -> x.read(a[0]));
        TWINS.refused("20: a lost sheet", Kings::rich, x -> x.read(3), NULL);
        TWINS.refused("20: a lost sheet, with seen full", Kings::crowded, x -> x.read(3), NULL);
        for (int s = 0; s < 4; s++) {
            int lost = s;
            TWINS.refused("20: sheet " + s + " of a new object", KingsYear::new, x -> x.read(lost), NULL);
        }
    }

    private static KingsYear withItems(int form, int size, int... items) {
        KingsYear x = Kings.with("mAaa;mBbb", "");
        x.sheet(0, form, size);
        for (int i = 0; i < items.length; i++) {
            x.lay(0, form, i, items[i]);
        }
        return x;
    }

    private static void readsWholePairs() {
        for (int size = 0; size <= 60; size++) {
            KingsYear x = withItems(size % 3, size);
            int pairs = Math.min(8, size / 2);
            due("20: of " + size + " items", x.read(0), pairs);
            due("20: seen of " + size + " items", x.count(6), pairs);
        }
        KingsYear odd = withItems(0, 3, 0, 0, 1);
        due("20: the last one is not whole", odd.read(0), 1);
        due("20: and counts for nothing", odd.sets(0) * 10 + odd.sets(1), 21);
        KingsYear x = withItems(0, 4, 0, 0, 1, 1);
        due("20: both", x.read(0), 2);
        due("20: hour, then deed", x.sets(0) * 10 + x.sets(1), 13);
        due("20: the sheet stays", x.get(0, 0, 2) * 10 + x.lose(0), 14);
    }

    private static void readsWhatMayBe() {
        int[][] wrong = {{-1, 0}, {24, 0}, {0, -2}, {0, 6}, {Kings.FAR_DOWN, 0}, {0, Kings.FAR_UP}, {256, 0}, {0, 65535}};
        for (int[] w : wrong) {
            KingsYear x = withItems(2, 6, 23, 5, w[0], w[1], 0, 0);
            due("20: as long as each may be, not " + w[0] + " " + w[1], x.read(0), 1);
            due("20: nor what comes behind it", x.count(6), 1);
            due("20: it is no finding", x.count(8), 0);
            KingsYear first = withItems(2, 6, w[0], w[1], 0, 0, 0, 0);
            due("20: the first may not be", first.read(0) * 10 + first.count(6), 0);
        }
        due("20: the ends of what may be", withItems(2, 8, 0, NONE, 0, 5, 23, NONE, 23, 5).read(0), 4);
        KingsYear x = withItems(0, 6, 0, 0, 0, 0, 1, NONE);
        for (int n = 1; n <= 6; n++) {
            x.seen(1, NONE);
        }
        due("20: as long as there is room", x.read(0), 2);
        due("20: eight then", x.count(6), 8);
        due("20: no room", x.read(0), 0);
        due("20: eight still", x.count(6), 8);
        due("20: those seen before are still there", x.sets(0) * 10 + x.sets(1), 11);
    }

    private static void readsEachForm() {
        due("20: bytes hold the lowest bits", withItems(0, 2, 256 + 23, 255).read(0), 1);
        due("20: shorts, too", withItems(1, 2, 65536 + 23, 65535).read(0), 1);
        due("20: ints hold all", withItems(2, 2, 65536 + 23, 0).read(0), 0);
        due("20: a byte below 0", withItems(0, 2, 128, 0).read(0), 0);
        for (int form = 0; form < 3; form++) {
            KingsYear x = withItems(form, 2, 0, NONE);
            due("20: nothing, by form " + form, x.read(0), 1);
            due("20: it is seen, by form " + form, x.sets(0) * 10 + x.sets(1), 20);
        }
    }

    // ---- promise 21: "SETS: how many (what = 0), the least (1; NONE), LAWS that are in all (2). BAD." Of none: 0.

    private static void setNumbers() {
        TWINS.ends("21: sets", Kings::rich, new int[][] {{0, 2}}, BAD, (x, a) -> x.sets(a[0]));
        for (int what = 0; what < 3; what++) {
            int asked = what;
            TWINS.asksOnly("21: sets " + what, Kings::rich, x -> x.sets(asked));
        }
    }

    private static void sets(String what, KingsYear x, int many, int least, int inAll) {
        due("21: how many, " + what, x.sets(0), many);
        due("21: the least, " + what, x.sets(1), least);
        due("21: in all, " + what, x.sets(2), inAll);
    }

    private static KingsYear seeing(String laws, String wants, int... seen) {
        KingsYear x = Kings.with(laws, wants);
        for (int i = 0; i < seen.length; i += 2) {
            x.seen(seen[i], seen[i + 1]);
        }
        return x;
    }

    private static void sets() {
        sets("no laws: the empty one", new KingsYear(), 1, 0, 0);
        sets("nothing seen", seeing("mAaa;mBbb;mCcc", ""), 8, 0, 0);
        sets("nothing seen, twelve laws", seeing(Kings.times("mAaa", 12), ""), 4096, 0, 0);
        sets("any of twelve", seeing(Kings.times("mAaa", 12), "", 0, 0), 4095, 1, 0);
        sets("none of twelve", seeing(Kings.times("mAaa", 12), "", 0, NONE), 1, 0, 0);
        sets("all twelve", seeing("mAaa;mAbb;mAcc;mAdd;mAee;mAff;mAgg;mAhh;nAii;nAii;nAii;nAii", "Ai1",
            0, 0, 1, 0, 2, 0, 3, 0, 4, 0, 5, 0, 6, 0, 7, 0), 16, 255, 255);
        sets("the last of twelve", seeing(Kings.times("mAaa", 11) + ";mFxx", "", 23, 5), 2048, 2048, 2048);
        sets("laws that never bind count, too", seeing("mAaa0;mBbb9", "", 0, 0, 1, 1), 1, 3, 3);
        sets("seen twice is as once", seeing("mAaa;mBbb", "", 0, 0, 0, 0, 0, 0), 2, 1, 1);
        sets("nothing, as what he wants is forbidden", seeing("nAaa;nAaa", "Aa1", 0, NONE), 3, 1, 0);
        sets("what he wants", seeing("nAaa;nAaa", "Aa1", 0, 0), 1, 0, 0);
        sets("never a clash", seeing("mAaa;mBaa", "", 0, 0), 1, 1, 1);
    }

    private static void setsOfNone() {
        sets("two deeds in one hour", seeing("mAaa;mBaa", "", 0, 0, 0, 1), 0, NONE, 0);
        sets("what nobody wants or orders", seeing("mAaa", "", 0, 1), 0, NONE, 0);
        sets("no laws, a deed", seeing("", "", 0, 0), 0, NONE, 0);
        sets("no laws, nothing", seeing("", "", 0, NONE), 1, 0, 0);
        KingsYear x = seeing("mAaa", "", 0, 1);
        due("22: watch of none", x.watch(), 0);
        x.forget();
        sets("forgotten", x, 2, 0, 0);
    }

    // ---- promise 22: "WATCH": the least of the greatest numbers that are alike, a CLASH, too; of like ones the first

    private static void watching() {
        due("22: no laws", new KingsYear().watch(), 0);
        for (int hour = 0; hour < 24; hour++) {
            String letter = "" + (char) ('a' + hour);
            due("22: the only hour that tells", Kings.with("mA" + letter + letter, "").watch(), hour);
            due("22: a ban tells with a want", Kings.with("nAax", "A" + letter + "1").watch(), hour);
            due("22: of the last deed, too", Kings.with("nFax", "F" + letter + "1").watch(), hour);
        }
        due("22: of like ones the first", Kings.with("mAcc;mBdd;mCee", "").watch(), 2);
        due("22: past midnight the first is midnight", Kings.with("mAxb", "").watch(), 0);
        due("22: a clash is alike by itself", Kings.with("mAbb;mBbb;mCaa", "").watch(), 1);
        due("22: clashes are alike", Kings.with("mAab;mBab;mCaa", "").watch(), 1);
        due("22: no ban tells without a want", Kings.with("nAax", "").watch(), 0);
        due("22: hours that are unlike in all deeds", Kings.with("nAax", "Af6;Bf5;Cf4;Df3;Ef2;Ff1").watch(), 5);
        due("22: hours that are unlike in the last deed", Kings.with("nFax", "Af1;Ff2;Ag2;Fg1").watch(), 5);
        due("22: told apart already", seeing("mAaa;mBbb", "", 0, 0).watch(), 1);
        due("22: all told apart", seeing("mAaa;mBbb", "", 0, 0, 1, 1).watch(), 0);
        TWINS.asksOnly("22: watch", Kings::rich, x -> x.watch());
        TWINS.asksOnly("22: watch of twelve", Kings::crowded, x -> x.watch());
        KingsYear x = Kings.with("mAdd", "");
        due("22: before", x.watch(), 3);
        x.wipe(0);
        due("22: the laws wiped", x.watch(), 0);
        Kings.typeAll(x, 0, "nAax");
        due("22: other laws", x.watch(), 0);
        Kings.typeAll(x, 1, "Af1");
        due("22: with a want", x.watch(), 5);
        x.seen(5, 0);
        due("22: seen", x.watch(), 0);
        x.forget();
        due("22: forgotten", x.watch(), 5);
    }

    // ---- promise 23: "GOUT: above, below. BAD. (As the least long.)" c from 0 to 16; FRACTIONS in lowest terms, 0 by 1

    private static void goutNumbers() {
        int[][] ends = {{0, 16}, {0, 29}, {0, 23}, {-1, 6}, {0, 1}};
        TWINS.ends("23: gout", Kings::rich, ends, Kings.BAD_LONG, (x, a) -> x.gout(a[0], a[1], a[2], a[3], a[4]));
        due("23: the least long, and two more", new KingsYear().gout(17, 0, 0, 0, 0), -9223372036854775806L);
        TWINS.asksOnly("23: above", Kings::rich, x -> x.gout(5, 3, 8, 6, 0));
        TWINS.asksOnly("23: below", Kings::crowded, x -> x.gout(5, 3, 8, NONE, 1));
    }

    private static void gout(String what, KingsYear x, int c, int deed, long above, long below) {
        due("23: above, " + what, x.gout(c, 0, 0, deed, 0), above);
        due("23: below, " + what, x.gout(c, 0, 0, deed, 1), below);
    }

    private static void goutEnds() {
        for (int deed = NONE; deed <= CLASH; deed++) {
            gout("no laws, no wants, " + deed, new KingsYear(), 16, deed, deed == NONE ? 1 : 0, 1);
            gout("nothing is forgotten, " + deed, Kings.tried("mFaa", "Aa1"), 0, deed, deed == 5 ? 1 : 0, 1);
            gout("all is forgotten, " + deed, Kings.tried("mFaa", "Aa1"), 16, deed, deed == 0 ? 1 : 0, 1);
            gout("a clash that is sure, " + deed, Kings.tried("mFaa;nFaa", "Aa1"), 0, deed, deed == CLASH ? 1 : 0, 1);
        }
        long[][] lowest = {{0, 1}, {1, 16}, {1, 8}, {3, 16}, {1, 4}, {5, 16}, {3, 8}, {7, 16}, {1, 2}, {9, 16}, {5, 8}, {11, 16},
            {3, 4}, {13, 16}, {7, 8}, {15, 16}, {1, 1}};
        for (int c = 0; c <= 16; c++) {
            gout("forgets one law by " + c, Kings.tried("mAaa", ""), c, NONE, lowest[c][0], lowest[c][1]);
            gout("keeps one law by " + c, Kings.tried("mAaa", ""), c, 0, lowest[16 - c][0], lowest[16 - c][1]);
        }
        KingsYear x = Kings.with("mAaa", "");
        x.trial(5, 0);
        x.breach(5, 0);
        due("23: not before its year", x.gout(8, 4, 0, 0, 0), 0);
        due("23: in its year", x.gout(8, 5, 0, 0, 0) * 10 + x.gout(8, 5, 0, 0, 1), 12);
        due("23: lapsed", x.gout(8, 6, 0, 0, 0), 0);
        due("23: in the last hour", Kings.tried("mAxx", "").gout(8, 29, 23, 0, 1), 2);
    }

    private static void goutOfTwelve() {
        long most = 1L << 48;
        KingsYear orders = Kings.tried(Kings.times("mAaa", 12), "");
        gout("all twelve forgotten", orders, 1, NONE, 1, most);
        gout("not all twelve", orders, 1, 0, most - 1, most);
        gout("twelve by fifteen", orders, 15, NONE, 129746337890625L, most);
        gout("twelve, halved", orders, 8, NONE, 1, 4096);
        gout("twelve, none forgotten", orders, 0, 0, 1, 1);
        gout("twelve, all forgotten", orders, 16, 0, 0, 1);
        KingsYear halves = Kings.tried(Kings.times("mAaa", 6) + ";" + Kings.times("nAaa", 6), "Aa1");
        gout("no ban and some order, or none at all", halves, 8, 0, 1, 64);
        gout("some ban, no order", halves, 8, NONE, 63, 4096);
        gout("some ban, some order", halves, 8, CLASH, 63 * 63, 4096);
    }

    private static void goutOfUnlikeDeeds() {
        for (int d = 0; d < 6; d++) {
            String letter = "" + (char) ('A' + d);
            String other = "" + (char) ('A' + (d + 1) % 6);
            KingsYear orders = Kings.tried("m" + letter + "aa;m" + other + "aa", "");
            gout("one of two orders, " + letter, orders, 4, d, 3, 16);
            gout("both orders, " + letter, orders, 4, 6, 9, 16);
            gout("no order, " + letter, orders, 4, NONE, 1, 16);
            KingsYear mixed = Kings.tried("m" + letter + "aa;n" + other + "aa", other + "a1");
            gout("an order, a ban on another, " + letter, mixed, 4, d, 3, 4);
            gout("a ban alone, " + letter, mixed, 4, NONE, 3, 16);
            gout("neither, " + letter, mixed, 4, (d + 1) % 6, 1, 16);
        }
        KingsYear x = Kings.tried("mAaa;nBaa;nAaa", "Ba9;Aa5");
        gout("ordered, or the next that he likes", x, 8, 0, 3, 8);
        gout("what he likes most", x, 8, 1, 1, 4);
        gout("ordered and forbidden", x, 8, CLASH, 1, 4);
        gout("both forbidden", x, 8, NONE, 1, 8);
        KingsYear three = Kings.tried("mAaa;mBaa;nCaa", "Ca9;Da5;Ea5");
        gout("what he likes most, of three", three, 4, 2, 1, 64);
        gout("of like ones the least", three, 4, 3, 3, 64);
        gout("of like ones the greater", three, 4, 4, 0, 1);
    }

    private static void goutOfLikeOnes() {
        KingsYear like = Kings.tried("nAaa;nBaa", "Aa1;Ba1");
        gout("the least of two like ones", like, 4, 0, 1, 4);
        gout("the greater of two like ones", like, 4, 1, 3, 16);
        gout("none of two like ones", like, 4, NONE, 9, 16);
        KingsYear unlike = Kings.tried("nAaa;nBaa", "Aa1;Ba2");
        gout("the lesser like", unlike, 4, 0, 3, 16);
        gout("the greater like", unlike, 4, 1, 1, 4);
        KingsYear unwanted = Kings.tried("nAaa;nBaa;nCaa", "Ba1");
        gout("bans on what he does not want", unwanted, 4, 1, 1, 4);
        gout("the ban on what he wants", unwanted, 4, NONE, 3, 4);
        gout("what he does not want", unwanted, 4, 0, 0, 1);
    }

    /** All that he may do in an hour is as a whole sure. */
    private static void goutAddsUp() {
        for (int c = 0; c <= 16; c++) {
            KingsYear x = Kings.tried("mAaa;nBax;mCaa;nDaa;nEaa;mBab;nAxa;nDab;nEaa;mAaa;nCaa;nFaa", "Ba9;Da8;Ea8;Fa1");
            long whole = 1L << 48;
            long sum = 0;
            for (int deed = NONE; deed <= CLASH; deed++) {
                long above = x.gout(c, 0, 0, deed, 0);
                long below = x.gout(c, 0, 0, deed, 1);
                sum += above * (whole / below);
                CHECK.holds("23: in lowest terms", below == 1 || above % 2 == 1);
            }
            due("23: together, with " + c, sum, whole);
        }
    }

    // ---- promise 24: "YEARS: how many (what = 0), JOY (1). BAD: also where there are no LAWS." n from 1 to 30

    private static void yearNumbers() {
        int[][] ends = {{Kings.FAR_DOWN, Kings.FAR_UP}, {1, 30}, {0, 1}};
        TWINS.ends("24: years", Kings::rich, ends, BAD, (x, a) -> x.years(a[0], a[1], a[2]));
        TWINS.refused("24: no laws", () -> Kings.with("", "Aa1"), x -> x.years(7, 20, 0), BAD);
        TWINS.refused("24: no laws, joy", () -> Kings.with("", "Aa1"), x -> x.years(7, 20, 1), BAD);
        TWINS.refused("24: laws with a fault", () -> Kings.with("mAaa;", "Aa1"), x -> x.years(7, 20, 1), BAD);
        TWINS.asksOnly("24: years", Kings::rich, x -> x.years(7, 20, 0));
        TWINS.asksOnly("24: joy of years", Kings::crowded, x -> x.years(7, 30, 1));
    }

    /** "1103515245 SEED and 12345, as ints that wrap; its upper 16 bits as a number from 0 on" */
    private static void lots() {
        int keeping = tryingLast(0);
        int lapsing = tryingLast(1);
        CHECK.holds("24: by some seed a law is tried first in year 29", keeping != NONE && lapsing != NONE);
        for (int seed : new int[] {keeping, lapsing, 0, 1, 7, -1, 65535, 65536, -65536, Kings.FAR_DOWN, Kings.FAR_UP, 1103515245, 654583775}) {
            for (int many = 1; many <= 12; many++) {
                KingsYear x = Kings.with(ONE_AN_HOUR.substring(0, 5 * many - 1), WANTED);
                for (int n : new int[] {1, 2, 28, 29, 30}) {
                    int[] due = bound(seed, n, many);
                    String what = "seed " + seed + ", " + many + " laws, " + n + " years";
                    due("24: how many, " + what, x.years(seed, n, 0), due[0]);
                    due("24: joy, " + what, x.years(seed, n, 1), 24 - 2 * due[1]);
                }
            }
        }
    }

    /** A seed by which, of twelve laws, one is tried first in year 29, where it binds the king alone, and lapses or not. */
    private static int tryingLast(int lapses) {
        for (int seed = 0; seed < 100000; seed++) {
            int[] bound = bound(seed, 30, 12);
            if (bound[1] > bound[0] && bound[2] == lapses) {
                return seed;
            }
        }
        return NONE;
    }

    /** How many laws bind all others in year 29, how many the king, and how many lapse in it; unsigned, in longs. */
    private static int[] bound(int start, int n, int many) {
        long whole = 1L << 32;
        long seed = start < 0 ? start + whole : start;
        int[] triedIn = new int[many];
        boolean[] lapses = new boolean[many];
        Arrays.fill(triedIn, NONE);
        for (int year = 0; year < n; year++) {
            seed = (seed * 1103515245L % whole + 12345) % whole;
            int law = (int) (seed / 65536 % many);
            seed = (seed * 1103515245L % whole + 12345) % whole;
            boolean isZero = seed / 65536 % 4 == 0;
            if (triedIn[law] == NONE) {
                triedIn[law] = year;
                lapses[law] = isZero;
            }
        }
        int others = 0;
        int king = 0;
        int late = 0;
        for (int law = 0; law < many; law++) {
            boolean lasts = triedIn[law] != NONE && triedIn[law] < 29 && !lapses[law];
            others += lasts ? 1 : 0;
            king += lasts || triedIn[law] == 29 ? 1 : 0;
            late += triedIn[law] == 29 && lapses[law] ? 1 : 0;
        }
        return new int[] {others, king, late};
    }

    private static void lotsOfYears() {
        KingsYear x = Kings.tried("nAaa", "Aa9");
        x.breach(0, 0);
        int kept = firstSeed(false);
        int lapsing = firstSeed(true);
        due("24: what is told is nothing, kept", x.years(kept, 1, 0) * 10 + x.years(kept, 1, 1), 10);
        due("24: what is told is nothing, lapsed", x.years(lapsing, 1, 0) * 10 + x.years(lapsing, 1, 1), 9);
        due("24: tried once, lapsed for good", x.years(lapsing, 30, 0), 0);
        due("24: tried once, kept for good", x.years(kept, 30, 0), 1);
        KingsYear leaning = Kings.with("nAaa0", "Aa9");
        due("24: one that leans in a ring", leaning.years(kept, 30, 0) * 10 + leaning.years(kept, 30, 1), 9);
    }

    private static int firstSeed(boolean lapses) {
        for (int seed = 0; seed < 1000; seed++) {
            if ((bound(seed, 1, 1)[0] == 0) == lapses) {
                return seed;
            }
        }
        return NONE;
    }
}

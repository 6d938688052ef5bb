/** Promises 8 to 14 at the bounds that the document names: the last input that is well, the first that is refused. */
public final class YearBoundsTest {
    private static final int NONE = Kings.NONE, BAD = Kings.BAD, NOT = Kings.NOT, FULL = Kings.FULL;
    private static final int CLASH = 6;
    private static final int[][] YEAR_AND_LAW = {{0, 29}, {0, 11}};
    private static final String TWELVE = Kings.times("nAaa", 12);
    private static final Check CHECK = new Check();
    private static final Twins TWINS = new Twins(CHECK);

    public static void main(String[] args) {
        trialNumbers();
        trialsToTheEnd();
        theFirstTrialCounts();
        breachNumbers();
        breachesToTheEnd();
        lapsing();
        backs();
        bindsNumbers();
        bindsYearByYear();
        leaningYearByYear();
        leaningOnNone();
        rings();
        doesNumbers();
        hoursOfALaw();
        clashes();
        likes();
        joyNumbers();
        joys();
        firstClashes();
        quarrelNumbers();
        quarrels();
        quarrelsByHours();
        CHECK.end("YearBoundsTest", 8, 14);
    }

    private static void due(String what, long got, long want) {
        CHECK.due(what, got, want);
    }

    // ---- promise 8: "A TRIAL more: how many. BAD; FULL." YEARS are 0 to 29, a LAW 0 to 11, 12 TRIALS at most.

    private static void trialNumbers() {
        TWINS.ends("8: trial", Kings::rich, YEAR_AND_LAW, BAD, (x, a) -> x.trial(a[0], a[1]));
        TWINS.refused("8: both wrong", Kings::rich, x -> x.trial(30, 12), BAD);
        KingsYear x = new KingsYear();
        due("8: of a law that is not there yet", x.trial(29, 11), 1);
        due("8: it binds nobody", x.binds(29, 0), 0);
        Kings.typeAll(x, 0, TWELVE);
        due("8: until it is there", x.binds(29, 0), 2048);
        x.undo(0);
        due("8: and while it is", x.binds(29, 0), 0);
    }

    private static void trialsToTheEnd() {
        KingsYear x = Kings.with(TWELVE, "");
        for (int n = 1; n <= 12; n++) {
            due("8: trial " + n, x.trial(n, n - 1), n);
        }
        due("8: the twelfth counts", x.binds(12, 0), 4095);
        due("8: the first that is refused", x.trial(0, 0), FULL);
        due("8: and again", x.trial(29, 11), FULL);
        due("8: it tells nothing", x.binds(0, 0) + x.count(4), 12);
        TWINS.refused("8: a thirteenth", Kings::crowded, y -> y.trial(0, 0), FULL);
        TWINS.refused("8: BAD comes before FULL, the year", Kings::crowded, y -> y.trial(30, 0), BAD);
        TWINS.refused("8: BAD comes before FULL, the law", Kings::crowded, y -> y.trial(0, 12), BAD);
        due("8, 10: undone, there is room", x.back(0) * 100 + x.trial(0, 11), 1112);
        due("8, 10: and the new one counts", x.binds(0, 0), 2048);
        KingsYear breaches = new KingsYear();
        for (int n = 1; n <= 12; n++) {
            breaches.breach(0, 0);
        }
        due("8: full breaches are no harm", breaches.trial(0, 0), 1);
    }

    /** "of a LAW the first that is told counts" */
    private static void theFirstTrialCounts() {
        KingsYear x = Kings.with("nAaa", "");
        x.trial(5, 0);
        x.trial(2, 0);
        x.trial(8, 0);
        due("8: an earlier year told later does not count", x.binds(2, 0) + x.binds(4, 0), 0);
        due("8: the first does", x.binds(5, 0), 1);
        due("8: others from the next year on", x.binds(5, 1) * 10 + x.binds(6, 1), 1);
        x.breach(2, 0);
        x.breach(8, 0);
        due("9: a breach in the year of another telling", x.binds(29, 2) * 10 + x.binds(29, 0), 1);
        x.breach(5, 0);
        due("9: in that of the first", x.binds(29, 2) * 10 + x.binds(29, 0), 10);
        due("10: the last two go", x.back(0) * 10 + x.back(0), 21);
        due("10: the first stays", x.binds(5, 0), 1);
        x.back(0);
        x.trial(2, 0);
        due("8: told anew, another is the first", x.binds(2, 0), 1);
        due("9: and its breach counts", x.binds(2, 2) * 10 + x.binds(3, 0), 10);
    }

    // ---- promise 9: "A BREACH more: how many. BAD; FULL." It LAPSES, if that is the YEAR of its TRIAL.

    private static void breachNumbers() {
        TWINS.ends("9: breach", Kings::rich, YEAR_AND_LAW, BAD, (x, a) -> x.breach(a[0], a[1]));
        TWINS.refused("9: both wrong", Kings::rich, x -> x.breach(-1, -1), BAD);
    }

    private static void breachesToTheEnd() {
        KingsYear x = Kings.tried(TWELVE, "");
        for (int n = 1; n <= 12; n++) {
            due("9: breach " + n, x.breach(n == 12 ? 0 : 29, 11), n);
        }
        due("9: the twelfth counts", x.binds(0, 2), 2048);
        due("9: the first that is refused", x.breach(0, 0), FULL);
        due("9: and again", x.breach(0, 11), FULL);
        due("9: it tells nothing", x.binds(0, 2), 2048);
        TWINS.refused("9: a thirteenth", Kings::crowded, y -> y.breach(0, 10), FULL);
        TWINS.refused("9: BAD comes before FULL, the year", Kings::crowded, y -> y.breach(-1, 0), BAD);
        TWINS.refused("9: BAD comes before FULL, the law", Kings::crowded, y -> y.breach(0, -1), BAD);
        due("9, 10: undone, there is room", x.back(1) * 100 + x.breach(0, 0), 1112);
        due("9, 10: and the new one counts", x.binds(0, 2), 1);
        KingsYear trials = new KingsYear();
        for (int n = 1; n <= 12; n++) {
            trials.trial(0, 0);
        }
        due("9: full trials are no harm", trials.breach(0, 0), 1);
    }

    private static void lapsing() {
        for (int told = 9; told <= 11; told++) {
            KingsYear x = Kings.with("nAaa;nAaa", "");
            x.trial(10, 0);
            x.trial(10, 1);
            x.breach(told, 0);
            due("9: broken in year " + told, x.binds(29, 2), told == 10 ? 1 : 0);
        }
        KingsYear before = Kings.with("nAaa", "");
        before.breach(4, 0);
        due("9: one that is not tried does not lapse", before.binds(29, 2), 0);
        before.trial(4, 0);
        due("9: told before its trial", before.binds(4, 2), 1);
        before.breach(4, 0);
        due("9: told twice", before.binds(4, 2), 1);
        due("10: one of the two undone", before.back(1) * 10 + before.binds(4, 2), 11);
        due("10: both", before.back(1) * 10 + before.binds(4, 2), 0);
        KingsYear moved = Kings.with("nAaa", "");
        moved.trial(4, 0);
        moved.breach(4, 0);
        moved.back(0);
        moved.trial(5, 0);
        due("9: the trial is of another year now", moved.binds(29, 2) * 10 + moved.binds(29, 1), 1);
    }

    // ---- promise 10: "The last TRIAL (what = 0), BREACH (1) is undone: how many are left. BAD; NOT: there is none."

    private static void backs() {
        TWINS.ends("10: back", Kings::rich, new int[][] {{0, 1}}, BAD, (x, a) -> x.back(a[0]));
        TWINS.refused("10: no trial", () -> told(false, true), x -> x.back(0), NOT);
        TWINS.refused("10: no breach", () -> told(true, false), x -> x.back(1), NOT);
        TWINS.refused("10: BAD comes before NOT", KingsYear::new, x -> x.back(2), BAD);
        KingsYear x = Kings.crowded();
        for (int left = 11; left >= 0; left--) {
            due("10: trials are left", x.back(0), left);
        }
        due("10: none is left", x.back(0), NOT);
        due("10: no law binds", x.binds(29, 0) + x.binds(29, 2), 0);
        for (int left = 11; left >= 0; left--) {
            due("10: breaches are left", x.back(1), left);
        }
        due("10: none of these is left", x.back(1), NOT);
    }

    private static KingsYear told(boolean isTried, boolean isBroken) {
        KingsYear x = Kings.with("nAaa", "Aa1");
        if (isTried) {
            x.trial(3, 0);
        }
        if (isBroken) {
            x.breach(3, 0);
        }
        return x;
    }

    // ---- promise 11: "LAWS that bind the KING (what = 0), all others (1), that have LAPSED (2), as bits. BAD."

    private static void bindsNumbers() {
        TWINS.ends("11: binds", Kings::rich, new int[][] {{0, 29}, {0, 2}}, BAD, (x, a) -> x.binds(a[0], a[1]));
        for (int what = 0; what < 3; what++) {
            int asked = what;
            TWINS.asksOnly("11: binds " + what, Kings::rich, x -> x.binds(3, asked));
        }
        KingsYear all = Kings.tried(TWELVE, "");
        due("11: all twelve bind the king", all.binds(0, 0), 4095);
        due("11: nobody else yet", all.binds(0, 1), 0);
        due("11: all others in the next year", all.binds(1, 1), 4095);
        for (int law = 0; law < 12; law++) {
            all.breach(0, law);
        }
        due("11: all twelve lapse", all.binds(0, 2), 4095);
        due("11: and still bind him in that year", all.binds(0, 0), 4095);
        due("11: and then no more", all.binds(1, 0) + all.binds(1, 1), 0);
        all.undo(0);
        due("11: of no laws none has lapsed", all.binds(29, 2), 0);
    }

    /** A trial in each year, with and without its breach, and each year asked. */
    private static void bindsYearByYear() {
        for (int tried = 0; tried < 30; tried++) {
            for (int broken = 0; broken < 2; broken++) {
                KingsYear x = Kings.with("nAaa", "");
                x.trial(tried, 0);
                if (broken == 1) {
                    x.breach(tried, 0);
                }
                for (int year = 0; year < 30; year++) {
                    String what = "11: tried in " + tried + ", broken " + broken + ", year " + year;
                    boolean later = year > tried && broken == 0;
                    due(what + ", the king", x.binds(year, 0), later || year == tried ? 1 : 0);
                    due(what + ", all others", x.binds(year, 1), later ? 1 : 0);
                    due(what + ", lapsed", x.binds(year, 2), broken == 1 && tried <= year ? 1 : 0);
                }
            }
        }
    }

    /** "One that LEANS binds whom it does only in YEARS in which that one does, too": law 1 leans on law 0. */
    private static void leaningYearByYear() {
        for (int k = 0; k < 4 * 36; k++) {
            int first = k / 24;
            int second = k / 4 % 6;
            boolean firstBroken = k % 2 == 1;
            boolean secondBroken = k / 2 % 2 == 1;
            KingsYear x = Kings.with("nAaa;nBaa0", "");
            x.trial(second, 1);
            x.trial(first, 0);
            if (firstBroken) {
                x.breach(first, 0);
            }
            if (secondBroken) {
                x.breach(second, 1);
            }
            for (int year = 0; year < 8; year++) {
                String what = "11: leaning, tried in " + second + " on " + first + ", broken " + k % 4 + ", year " + year;
                boolean others0 = year > first && !firstBroken;
                boolean others1 = year > second && !secondBroken;
                boolean king0 = others0 || year == first;
                boolean king1 = others1 || year == second;
                due(what + ", the king", x.binds(year, 0), bits(king0, king0 && king1));
                due(what + ", all others", x.binds(year, 1), bits(others0, others0 && others1));
                due(what + ", lapsed", x.binds(year, 2), bits(firstBroken && first <= year, secondBroken && second <= year));
            }
        }
    }

    private static int bits(boolean zero, boolean one) {
        return (zero ? 1 : 0) + (one ? 2 : 0);
    }

    /** "of a LAW that there is not .. never" */
    private static void leaningOnNone() {
        KingsYear x = Kings.with("nAaa1", "");
        x.trial(0, 0);
        x.trial(0, 1);
        due("11: leans on a law that there is not", x.binds(0, 0) + x.binds(29, 0) + x.binds(29, 1), 0);
        Kings.typeAll(x, 0, ";nAaa");
        due("11: it is there now", x.binds(0, 0), 3);
        for (int n = 0; n < 5; n++) {
            x.undo(0);
        }
        due("11: it is gone again", x.binds(0, 0), 0);
        due("11: though its trial is told", x.count(4), 2);
        due("11: on the last that there is", Kings.tried("nAaa2;nAaa;nAaa", "").binds(1, 1), 7);
        due("11: on the first that there is not", Kings.tried("nAaa3;nAaa;nAaa", "").binds(1, 1), 6);
        due("11: by another, too", Kings.tried("nAaa9;nAaa0;nAaa1;nAaa", "").binds(1, 1), 8);
        KingsYear untried = Kings.with("nAaa1;nAaa", "");
        untried.trial(0, 0);
        due("11: on one that is not tried", untried.binds(29, 0), 0);
        untried.trial(29, 1);
        due("11: tried in the last year, for the king alone", untried.binds(29, 0) * 10 + untried.binds(29, 1), 30);
        due("11: lapsed, though it never bound", lapsedRing(), 1);
    }

    private static int lapsedRing() {
        KingsYear x = Kings.tried("nAaa0", "");
        x.breach(0, 0);
        return x.binds(0, 2) + 10 * x.binds(0, 0);
    }

    /** "in a ring of such: never" */
    private static void rings() {
        for (int many = 1; many <= 10; many++) {
            StringBuilder laws = new StringBuilder();
            for (int law = 0; law < many; law++) {
                laws.append("nAaa").append((law + 1) % many).append(';');
            }
            KingsYear ring = Kings.tried(laws + "nBaa", "");
            due("11: a ring of " + many + ", the king", ring.binds(0, 0), 1 << many);
            due("11: a ring of " + many + ", all others", ring.binds(29, 1), 1 << many);
            if (many < 10) {
                KingsYear into = Kings.tried(laws + "nBaa;nCaa0;nCaa" + many, "");
                due("11: one that leans into a ring of " + many, into.binds(0, 0), 5 << many);
            }
        }
        String chain = "nAaa1;nAaa2;nAaa3;nAaa4;nAaa5;nAaa6;nAaa7;nAaa8;nAaa9;nAaa;nBaa0;nCaa0";
        KingsYear x = Kings.tried(chain, "");
        due("11: the longest that is no ring", x.binds(0, 0), 4095);
        x.breach(0, 9);
        due("11: it stands while its end does", x.binds(0, 0), 4095);
        due("11: and no longer", x.binds(1, 0), 0);
    }

    // ---- promise 12: "What he DOES: 0 to 6; NONE. BAD."

    private static void doesNumbers() {
        TWINS.ends("12: does", Kings::rich, new int[][] {{0, 29}, {0, 23}}, BAD, (x, a) -> x.does(a[0], a[1]));
        TWINS.asksOnly("12: does", Kings::rich, x -> x.does(3, 8));
    }

    /** From which hour to which, both, too; past midnight, if the second one is less. */
    private static void hoursOfALaw() {
        for (int from = 0; from < 24; from++) {
            for (int to = 0; to < 24; to++) {
                String law = "A" + (char) ('a' + from) + (char) ('a' + to);
                KingsYear order = Kings.tried("m" + law, "");
                KingsYear ban = Kings.tried("mAax;n" + law, "");
                for (int hour = 0; hour < 24; hour++) {
                    boolean covers = from <= to ? from <= hour && hour <= to : from <= hour || hour <= to;
                    due("12: ordered by m" + law + " in " + hour, order.does(0, hour), covers ? 0 : NONE);
                    due("12: forbidden by n" + law + " in " + hour, ban.does(0, hour), covers ? CLASH : 0);
                }
            }
        }
    }

    /** "If two unlike DEEDS are ORDERED, or one that is FORBIDDEN, it is a CLASH." */
    private static void clashes() {
        for (int one = 0; one < 6; one++) {
            for (int other = 0; other < 6; other++) {
                String first = (char) ('A' + one) + "aa";
                String second = (char) ('A' + other) + "aa";
                due("12: both ordered, " + first + second, Kings.tried("m" + first + ";m" + second, "Aa1").does(0, 0),
                    one == other ? one : CLASH);
                due("12: ordered and forbidden, " + first + second, Kings.tried("m" + first + ";n" + second, "Aa1").does(0, 0),
                    one == other ? CLASH : one);
                due("12: both forbidden, " + first + second, Kings.tried("n" + first + ";n" + second, "").does(0, 0), NONE);
            }
        }
        due("12: ordered by twelve alike", Kings.tried(Kings.times("mFaa", 12), "").does(0, 0), 5);
        due("12: all else forbidden", Kings.tried("mAaa;nBaa;nCaa;nDaa;nEaa;nFaa", "Ba9").does(0, 0), 0);
        due("12: a clash ends with the year of its law", endingClash(), 60);
    }

    private static int endingClash() {
        KingsYear x = Kings.tried("mAaa", "");
        Kings.typeAll(x, 0, ";nAaa");
        x.trial(4, 1);
        x.breach(4, 1);
        return x.does(4, 0) * 10 + x.does(5, 0);
    }

    /** "that which he would LIKE most (all that is told of that DEED and HOUR, together), of like ones the least" */
    private static void likes() {
        due("12: of like ones the least", Kings.with("", "Fa5;Ca5;Ea5").does(0, 0), 2);
        due("12: one more is more", Kings.with("", "Fa6;Ca5;Ea5").does(0, 0), 5);
        due("12: together", Kings.with("", "Aa9;Fa5;Fa5").does(0, 0), 5);
        due("12: together alike", Kings.with("", "Aa9;Fa5;Fa4").does(0, 0), 0);
        due("12: of that hour alone", Kings.with("", "Aa1;Fb9").does(0, 0), 0);
        due("12: all twelve", Kings.with("", Kings.times("Fa9", 11) + ";Aa9").does(0, 0), 5);
        due("12: the least like is one", Kings.with("", "Fx1").does(29, 23), 5);
        due("12: nothing is wanted", Kings.with("", "Fx1").does(29, 22), NONE);
        String wants = "Aa9;Ba8;Ca7;Da6;Ea5;Fa4";
        String bans = "";
        for (int d = 0; d < 6; d++) {
            due("12: the next that is not forbidden", Kings.tried(bans, wants).does(0, 0), d);
            bans += (d == 0 ? "n" : ";n") + (char) ('A' + d) + "aa";
        }
        due("12: all forbidden", Kings.tried(bans, wants).does(0, 0), NONE);
        due("12: ordered before wanted", Kings.tried("mFaa", wants).does(0, 0), 5);
        due("12: like ones without the least", Kings.tried("nCaa", "Fa5;Ca5;Ea5").does(0, 0), 4);
    }

    // ---- promise 13: "JOY (what = 0), FIRST CLASH (1; NONE). BAD."

    private static void joyNumbers() {
        TWINS.ends("13: joy", Kings::rich, new int[][] {{0, 29}, {0, 1}}, BAD, (x, a) -> x.joy(a[0], a[1]));
        TWINS.asksOnly("13: joy", Kings::rich, x -> x.joy(3, 0));
        TWINS.asksOnly("13: first clash", Kings::rich, x -> x.joy(3, 1));
    }

    private static void joys() {
        due("13: no wants", Kings.tried("mAax", "").joy(0, 0), 0);
        due("13: the most", Kings.with("", Kings.times("Fx9", 12)).joy(29, 0), 108);
        due("13: of what he does alone", Kings.with("", "Aa9;Ba8;Ca7;Fx1").joy(0, 0), 10);
        due("13: together, of one deed and hour", Kings.with("", "Aa9;Ba5;Ba5").joy(0, 0), 10);
        due("13: ordered and liked", Kings.tried("mBaa", "Aa9;Ba2").joy(0, 0), 2);
        due("13: ordered, another liked", Kings.tried("mCaa", "Aa9;Ba2").joy(0, 0), 0);
        due("13: nothing in a clash", Kings.tried("mAaa;nAaa", "Aa9;Ba2;Ab3").joy(0, 0), 3);
        due("13: nothing in a clash of orders", Kings.tried("mAaa;mBaa", "Aa9;Ba2;Ax4").joy(0, 0), 4);
        due("13: first and last hour", Kings.with("", "Aa9;Ax9").joy(0, 0), 18);
    }

    private static void firstClashes() {
        for (int hour = 0; hour < 24; hour++) {
            char letter = (char) ('a' + hour);
            due("13: the first clash is in " + hour, Kings.tried("mAax;nA" + letter + "x", "").joy(0, 1), hour);
        }
        due("13: past midnight the first is midnight", Kings.tried("mAax;nAxb", "").joy(0, 1), 0);
        due("13: none", Kings.tried("mAaw;nAxx", "").joy(0, 1), NONE);
        due("13: none without laws", new KingsYear().joy(0, 1), NONE);
    }

    // ---- promise 14: "QUARRELS: how many (what = 0), the least (1; NONE). BAD."

    private static void quarrelNumbers() {
        TWINS.ends("14: quarrels", Kings::rich, new int[][] {{0, 29}, {0, 1}}, BAD, (x, a) -> x.quarrels(a[0], a[1]));
        TWINS.asksOnly("14: quarrels", Kings::rich, x -> x.quarrels(3, 0));
        TWINS.asksOnly("14: the least quarrel", Kings::rich, x -> x.quarrels(3, 1));
    }

    private static void quarrels() {
        quarrel("none without laws", new KingsYear(), 0, NONE);
        quarrel("one law has none", Kings.tried("mAax", ""), 0, NONE);
        quarrel("the first pair", Kings.tried("mAaa;mBaa", ""), 1, 1);
        quarrel("the last pair", Kings.tried(Kings.times("nAaa", 10) + ";mBxx;nBxx", ""), 1, 131);
        quarrel("first and last", Kings.tried("mBxx;" + Kings.times("nAaa", 10) + ";nBxx", ""), 1, 11);
        quarrel("all but six pairs", Kings.tried("mAax;mBax;mCax;mDax;mEax;mFax;mAax;mBax;mCax;mDax;mEax;mFax", ""), 60, 1);
        quarrel("like ones have none", Kings.tried(Kings.times("mAax", 12), ""), 0, NONE);
        quarrel("a pair is one, in however many hours", Kings.tried("mAax;nAax", ""), 1, 1);
        quarrel("those that do not bind have none", Kings.with("mAaa;mBaa", ""), 0, NONE);
        KingsYear late = Kings.with("mAaa;mBaa;mCaa", "");
        late.trial(0, 0);
        late.trial(29, 2);
        due("14: not yet", late.quarrels(28, 0) * 10 + late.quarrels(28, 1), NONE);
        due("14: in the year of the trial", late.quarrels(29, 0) * 10 + late.quarrels(29, 1), 12);
        quarrel("a third law makes no pair alone", Kings.tried("mAaa;nBaa;mCbb", ""), 0, NONE);
    }

    private static void quarrel(String what, KingsYear x, int many, int least) {
        due("14: how many, " + what, x.quarrels(0, 0), many);
        due("14: the least, " + what, x.quarrels(0, 1), least);
    }

    private static void quarrelsByHours() {
        String[][] pairs = {{"ab", "bc", "1"}, {"ab", "cd", "0"}, {"xa", "aa", "1"}, {"xa", "xx", "1"}, {"xa", "bw", "0"}, {"wb", "ca", "1"},
            {"wb", "cv", "0"}, {"ba", "aa", "1"}, {"ba", "bb", "1"}, {"ax", "mm", "1"}, {"ll", "mm", "0"}, {"mm", "mm", "1"}};
        for (String[] p : pairs) {
            String what = "meeting in an hour: " + p[0] + " and " + p[1];
            int many = Integer.parseInt(p[2]);
            quarrel(what, Kings.tried("mA" + p[0] + ";mB" + p[1], ""), many, many == 1 ? 1 : NONE);
            quarrel(what + ", a ban", Kings.tried("nA" + p[0] + ";mA" + p[1], ""), many, many == 1 ? 1 : NONE);
            quarrel(what + ", a ban on another", Kings.tried("nA" + p[0] + ";mB" + p[1], ""), 0, NONE);
        }
    }
}

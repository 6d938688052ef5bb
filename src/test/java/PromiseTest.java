/** Each promise by its number: ordinary inputs, the edges that the document names, wrong inputs. */
public final class PromiseTest {
    private static final int NONE = Kings.NONE, BAD = Kings.BAD, NOT = Kings.NOT, FULL = Kings.FULL;
    private static final int NULL = Kings.NULL, INDEX = Kings.INDEX, CAST = Kings.CAST, STORE = Kings.STORE, SIZE = Kings.SIZE;
    private static final int FAR_DOWN = Kings.FAR_DOWN, FAR_UP = Kings.FAR_UP;
    private static final Check CHECK = new Check();

    public static void main(String[] args) {
        newObject();
        texts();
        faults();
        lawsAndWants();
        trials();
        leaning();
        hours();
        joys();
        quarrelling();
        exemptions();
        keeping();
        orders();
        seeing();
        reading();
        sets();
        watching();
        gouts();
        lots();
        sheets();
        items();
        copies();
        writing();
        counts();
        digests();
        CHECK.end("PromiseTest", 1, 32);
    }

    private static void due(String what, long got, long want) {
        CHECK.due(what, got, want);
    }

    private static void newObject() {
        KingsYear x = new KingsYear();
        for (int what = 0; what <= 8; what++) {
            due("1: new count " + what, x.count(what), 0);
        }
        due("1: new fault 0", x.fault(0), NONE);
        due("1: new fault 1", x.fault(1), NONE);
        due("1: new binds", x.binds(0, 0) + x.binds(29, 1) + x.binds(29, 2), 0);
        due("1: new does", x.does(0, 0), NONE);
        due("1: new sets", x.sets(0), 1);
        due("1: new watch", x.watch(), 0);
        due("1: new order", x.order(1, 0, NONE), BAD);
        for (int s = 0; s < 4; s++) {
            due("1: new sheet is lost", x.lose(s), NULL);
        }
    }

    private static void texts() {
        KingsYear x = new KingsYear();
        due("2: byte 0", x.type(0, 0), 1);
        due("2: byte 255", x.type(0, 255), 2);
        due("2: other text", x.type(1, 255), 1);
        int[][] wrong = {{-1, 65}, {2, 65}, {FAR_DOWN, 65}, {FAR_UP, 65}, {0, -1}, {0, 256}, {1, FAR_DOWN}, {1, FAR_UP}};
        for (int[] w : wrong) {
            due("2: type " + w[0] + " " + w[1], x.type(w[0], w[1]), BAD);
        }
        due("2: refused changes nothing", x.count(2) * 100 + x.count(3), 201);
        for (int n = 3; n <= 71; n++) {
            due("2: to 71", x.type(0, 65), n);
        }
        due("2: full 0", x.type(0, 65), FULL);
        due("2: bad before full", x.type(0, 256), BAD);
        for (int n = 2; n <= 47; n++) {
            due("2: to 47", x.type(1, 65), n);
        }
        due("2: full 1", x.type(1, 65), FULL);
        due("2: full changes nothing", x.count(2) * 100 + x.count(3), 7147);
        due("4: undo full", x.undo(0), 70);
        due("4: room again", x.type(0, 65), 71);
        due("3: wipe 0", x.wipe(0), 71);
        due("3: wipe left the other", x.count(3), 47);
        due("3: wipe again", x.wipe(0), 0);
        due("3: wipe 1", x.wipe(1), 47);
        due("4: undo empty 0", x.undo(0), NOT);
        due("4: undo empty 1", x.undo(1), NOT);
        for (int text : new int[] {-1, 2, FAR_DOWN, FAR_UP}) {
            due("3: wipe bad", x.wipe(text), BAD);
            due("4: undo bad", x.undo(text), BAD);
            due("5: fault bad", x.fault(text), BAD);
        }
        Kings.typeAll(x, 0, "mAab");
        due("3, 4: text after wipe", x.law(0, 3), 1);
        due("4: undo", x.undo(0), 3);
        due("4: undone law is gone", x.count(0), 0);
        due("4: another byte", x.type(0, 'x'), 4);
        due("4: another law", x.law(0, 3), 23);
    }

    private static void faults() {
        String twelve = Kings.times("nFxx", 12);
        String[] laws = {"m", "mA", "mAa", "mAaa;", "x", "oAaa", "lAaa", "m@aa", "mGaa", "mA`a", "mAya", "mAa`", "mAay",
            "mAaa/", "mAaa:", "mAaa00", "mAaa0;", ";", "mAaa;;", "mAaa;x;m", "MAaa", "mAaa,nBbb", "mAaa; nBbb",
            twelve + ";", twelve + ";m", twelve + ";x", twelve + ";mAaa", twelve + "m"};
        int[] places = {1, 2, 3, 5, 0, 0, 0, 1, 1, 2, 2, 3, 3, 4, 4, 5, 6, 0, 5, 5, 0, 4, 5, 60, 60, 60, 60, 59};
        for (int k = 0; k < laws.length; k++) {
            KingsYear x = Kings.with(laws[k], "");
            due("5: fault of " + laws[k], x.fault(0), places[k]);
            due("5: no laws by " + laws[k], x.count(0), 0);
            due("5: bytes stay of " + laws[k], x.count(2), laws[k].length());
        }
        for (String well : new String[] {"", "mAaa", "nFxx", "mAaa0", "mAaa9", "mAaa;nBxa5", twelve, Kings.times("mCgb7", 12)}) {
            due("5: well is " + well, Kings.with(well, "").fault(0), NONE);
        }
        due("5: twelve laws", Kings.with(twelve, "").count(0), 12);
        due("5: twelve leaning laws", Kings.with(Kings.times("mCgb7", 12), "").count(0), 12);
        String[] wants = {"A", "Aa", "Aa0", "Aa:", "a", "@a1", "Ga1", "A`1", "Ay1", "Aa1;", "Aa11", "Aa1;;", ";", "Aa1;B", "Aa1;b"};
        int[] wantPlaces = {1, 2, 2, 2, 0, 0, 0, 1, 1, 4, 3, 4, 0, 5, 4};
        for (int k = 0; k < wants.length; k++) {
            KingsYear x = Kings.with("", wants[k]);
            due("5: fault of wants " + wants[k], x.fault(1), wantPlaces[k]);
            due("5: no wants by " + wants[k], x.count(1), 0);
        }
        for (String well : new String[] {"", "Aa1", "Fx9", Kings.times("Aa1", 12)}) {
            due("5: well are wants " + well, Kings.with("", well).fault(1), NONE);
        }
        KingsYear x = Kings.tried("mAbb", "Ab4");
        due("5: before the fault", x.joy(0, 0), 4);
        x.type(1, ';');
        due("5: faulty wants are none", x.joy(0, 0), 0);
        x.undo(1);
        x.type(0, ';');
        due("5: faulty laws are none", x.binds(0, 0), 0);
        due("5: nor is there a law", x.law(0, 0), BAD);
        x.undo(0);
        due("5: well again", x.binds(0, 0), 1);
    }

    private static void lawsAndWants() {
        KingsYear x = Kings.with("mAax;nFxa9;mCgg0", "Aa1;Fx9;Cg5");
        int[][] laws = {{1, 0, 0, 23, NONE}, {0, 5, 23, 0, 9}, {1, 2, 6, 6, 0}};
        int[][] wants = {{0, 0, 1}, {5, 23, 9}, {2, 6, 5}};
        for (int i = 0; i < 3; i++) {
            for (int what = 0; what < 5; what++) {
                due("6: law " + i + " " + what, x.law(i, what), laws[i][what]);
            }
            for (int what = 0; what < 3; what++) {
                due("7: want " + i + " " + what, x.want(i, what), wants[i][what]);
            }
            due("6: what 5", x.law(i, 5), BAD);
            due("6: what -1", x.law(i, -1), BAD);
            due("7: what 3", x.want(i, 3), BAD);
            due("7: what -1", x.want(i, -1), BAD);
        }
        for (int i : new int[] {-1, 3, 12, FAR_DOWN, FAR_UP}) {
            due("6: no law " + i, x.law(i, 0), BAD);
            due("7: no want " + i, x.want(i, 0), BAD);
        }
        KingsYear full = Kings.with(Kings.times("nFxx3", 12), Kings.times("Fx9", 12));
        due("6: law 11", full.law(11, 4), 3);
        due("6: law 12", full.law(12, 0), BAD);
        due("7: want 11", full.want(11, 2), 9);
        due("7: want 12", full.want(12, 0), BAD);
    }

    private static void trials() {
        KingsYear x = Kings.with("mAaa;mAbb;mAcc", "");
        int[][] wrong = {{-1, 0}, {30, 0}, {0, -1}, {0, 12}, {FAR_DOWN, 0}, {FAR_UP, 0}, {0, FAR_DOWN}, {0, FAR_UP}};
        for (int[] w : wrong) {
            due("8: bad", x.trial(w[0], w[1]), BAD);
            due("9: bad", x.breach(w[0], w[1]), BAD);
        }
        due("8: the first", x.trial(5, 0), 1);
        due("8: told again", x.trial(2, 0), 2);
        due("8: not by the later telling", x.binds(2, 0), 0);
        due("11: not before", x.binds(4, 0), 0);
        due("11: the king in its year", x.binds(5, 0), 1);
        due("11: others not in its year", x.binds(5, 1), 0);
        due("11: others later", x.binds(6, 1), 1);
        due("11: the king later", x.binds(29, 0), 1);
        due("8: year 29, law 11", x.trial(29, 11), 3);
        due("8: in year 29", x.trial(29, 1), 4);
        due("11: king in 29", x.binds(29, 0), 3);
        due("11: others in 29", x.binds(29, 1), 1);
        due("9: not in its year", x.breach(2, 0), 1);
        due("11: does not lapse", x.binds(29, 2), 0);
        due("9: in its year", x.breach(5, 0), 2);
        due("11: lapsed not before", x.binds(4, 2), 0);
        due("11: lapsed by then", x.binds(5, 2), 1);
        due("11: lapsed later", x.binds(29, 2), 1);
        due("11: lapsing law binds in its year", x.binds(5, 0), 1);
        due("11: lapsed binds not later", x.binds(6, 0), 0);
        due("11: lapsed binds no others", x.binds(6, 1), 0);
        due("10: breach back", x.back(1), 1);
        due("10: binds again", x.binds(6, 0), 1);
        due("10: trial back", x.back(0), 3);
        due("10: unbound again", x.binds(29, 0), 1);
        due("10: others back", x.back(0) * 100 + x.back(0) * 10 + x.back(0), 210);
        due("10: no trial", x.back(0), NOT);
        due("10: none binds", x.binds(29, 0), 0);
        due("10: last breach", x.back(1), 0);
        due("10: no breach", x.back(1), NOT);
        for (int what : new int[] {-1, 2, FAR_DOWN, FAR_UP}) {
            due("10: bad", x.back(what), BAD);
        }
        breachesFirst();
        fullLogs();
        wrongBinds(x);
    }

    private static void breachesFirst() {
        KingsYear x = Kings.with("mAaa;mAbb", "");
        x.breach(3, 1);
        x.breach(3, 2);
        due("9: without a trial", x.binds(29, 2), 0);
        x.trial(3, 1);
        x.trial(3, 2);
        due("9: told before the trial", x.binds(3, 2), 2);
        due("9: binds once", x.binds(3, 0), 2);
        due("9: not again", x.binds(4, 0), 0);
        Kings.typeAll(x, 0, ";mAcc");
        due("8, 9: told of a law that comes later", x.binds(3, 0) * 10 + x.binds(4, 2), 66);
        KingsYear y = Kings.with("mAaa", "");
        y.trial(0, 0);
        y.trial(4, 0);
        y.breach(4, 0);
        due("9: the year of the second telling is not its year", y.binds(29, 0), 1);
    }

    private static void fullLogs() {
        KingsYear x = new KingsYear();
        for (int n = 1; n <= 12; n++) {
            due("8: to twelve", x.trial(29, 11), n);
            due("9: to twelve", x.breach(0, 0), n);
        }
        due("8: full", x.trial(0, 0), FULL);
        due("9: full", x.breach(0, 0), FULL);
        due("8: bad before full", x.trial(30, 0), BAD);
        due("9: bad before full", x.breach(0, 12), BAD);
        due("8, 9: still twelve", x.count(4) * 100 + x.count(5), 1212);
        due("10: room again", x.back(0) * 100 + x.trial(1, 1), 1112);
    }

    private static void wrongBinds(KingsYear x) {
        int[][] wrong = {{-1, 0}, {30, 0}, {0, -1}, {0, 3}, {FAR_DOWN, 0}, {FAR_UP, 0}, {0, FAR_DOWN}, {0, FAR_UP}};
        for (int[] w : wrong) {
            due("11: bad", x.binds(w[0], w[1]), BAD);
        }
    }

    private static void leaning() {
        KingsYear x = Kings.with("mAaa;mAaa0;mAaa1", "");
        x.trial(4, 0);
        x.trial(2, 1);
        x.trial(3, 2);
        due("11: leans on one not yet tried", x.binds(3, 0), 0);
        due("11: all in its year", x.binds(4, 0), 7);
        due("11: others not yet", x.binds(4, 1), 0);
        due("11: others then", x.binds(5, 1), 7);
        x.breach(4, 0);
        due("11: in the year of the lapsing", x.binds(4, 0), 7);
        due("11: leaning on a lapsed one", x.binds(5, 0), 0);
        due("11: a lapsed one alone has lapsed", x.binds(5, 2), 1);
        x.back(1);
        x.breach(2, 1);
        due("11: lapses though it did not bind", x.binds(5, 2) * 10 + x.binds(5, 0), 21);
        KingsYear late = Kings.with("mAaa;mAaa0", "");
        late.trial(0, 0);
        late.trial(3, 1);
        due("11: leaning in its trial binds the king", late.binds(3, 0) * 10 + late.binds(3, 1), 31);
        due("11: ring of one", Kings.tried("mAaa0", "").binds(5, 0), 0);
        due("11: ring of two", Kings.tried("mAaa1;mAaa0;mAaa", "").binds(5, 0), 4);
        due("11: into a ring", Kings.tried("mAaa1;mAaa2;mAaa1;mAaa", "").binds(5, 0), 8);
        due("11: on a law that there is not", Kings.tried("mAaa9;mAaa0;mAaa", "").binds(5, 0), 4);
        due("11: on a later law", Kings.tried("mAaa1;mAaa", "").binds(5, 1), 3);
        KingsYear untried = Kings.with("mAaa;mAaa0", "");
        untried.trial(0, 1);
        due("11: on an untried law", untried.binds(9, 0), 0);
        String chain = "mAaa1;mAaa2;mAaa3;mAaa4;mAaa5;mAaa6;mAaa7;mAaa8;mAaa9;mAaa;nBaa0;nCaa0";
        due("11: the longest chain", Kings.tried(chain, "").binds(1, 1), 4095);
    }

    private static void hours() {
        KingsYear x = Kings.tried("mAwb;nBgg;mCgh", "Ba9;Bg9;Dx5;Eg5;Ec5;Fc5;Bj3;Cj2;Cj1;Cj1");
        due("12: before midnight", x.does(0, 22), 0);
        due("12: ordered, not wanted", x.does(0, 23), 0);
        due("12: midnight", x.does(0, 0), 0);
        due("12: to the last hour", x.does(0, 1), 0);
        due("12: of like ones the least", x.does(0, 2), 4);
        due("12: nothing wanted", x.does(0, 3), NONE);
        due("12: ordered, another forbidden", x.does(0, 6), 2);
        due("12: ordered to the end", x.does(0, 7), 2);
        due("12: likes together", x.does(0, 9), 2);
        due("12: before it covers", x.does(0, 21), NONE);
        KingsYear y = Kings.tried("nBgg;nEgg;mAhh;mAhh;mAii;mBii;mAjj;nAjj;nAkk;nAkk", "Bg9;Eg8;Dg2;Cg2;Ak1;Bj2");
        due("12: forbidden are passed over", y.does(0, 6), 2);
        due("12: ordered twice", y.does(0, 7), 0);
        due("12: unlike orders", y.does(0, 8), 6);
        due("12: ordered and forbidden", y.does(0, 9), 6);
        due("12: the only want forbidden", y.does(0, 10), NONE);
        due("12: an unbound law", Kings.with("mAhh", "").does(0, 7), NONE);
        KingsYear lapsed = Kings.with("mAaa", "");
        lapsed.trial(2, 0);
        lapsed.breach(2, 0);
        due("12: year by year", lapsed.does(1, 0) * 100 + lapsed.does(2, 0) * 10 + lapsed.does(3, 0), -101);
        int[][] wrong = {{-1, 0}, {30, 0}, {0, -1}, {0, 24}, {FAR_DOWN, 0}, {FAR_UP, 0}, {0, FAR_DOWN}, {0, FAR_UP}};
        for (int[] w : wrong) {
            due("12: bad", x.does(w[0], w[1]), BAD);
        }
        due("12: last", x.does(29, 23), 0);
    }

    private static void joys() {
        KingsYear x = Kings.tried("mAgg;mBhh;nChh;mAii;mBii;mCii;nDjj;mEkx", "Ag2;Ag3;Bg9;Ah5;Ai9;Bi9;Dj7;Ej1;Ek4;Aa1;Ax9;Bb6");
        due("13: joy", x.joy(0, 0), 5 + 0 + 0 + 1 + 4 + 1 + 6);
        due("13: first clash", x.joy(0, 1), 8);
        KingsYear y = Kings.with("mAgg;mBgg;mAcc;nAcc", "Bg9;Ag1");
        due("13: unbound", y.joy(3, 0) * 100 + y.joy(3, 1), 899);
        y.trial(3, 0);
        due("13: with an order", y.joy(3, 0), 1);
        y.trial(3, 1);
        due("13: nothing in a clash", y.joy(3, 0), 0);
        due("13: clash at 6", y.joy(3, 1), 6);
        y.trial(4, 2);
        y.trial(4, 3);
        due("13: the first of two", y.joy(4, 1), 2);
        due("13: no clash before", y.joy(2, 1), NONE);
        due("13: clash in the last hour", Kings.tried("mAax;mBxx", "").joy(0, 1), 23);
        due("13: clash past midnight", Kings.tried("mAxa;nAaa", "").joy(0, 1), 0);
        due("13: most joy", Kings.tried("", Kings.times("Aa9", 12)).joy(29, 0), 108);
        wrongYearAndWhat();
    }

    private static void wrongYearAndWhat() {
        KingsYear x = Kings.tried("mAgg;nAgg", "Ag2");
        int[][] wrong = {{-1, 0}, {30, 0}, {0, -1}, {0, 2}, {FAR_DOWN, 0}, {FAR_UP, 0}, {0, FAR_DOWN}, {0, FAR_UP}};
        for (int[] w : wrong) {
            due("13: bad", x.joy(w[0], w[1]), BAD);
            due("14: bad", x.quarrels(w[0], w[1]), BAD);
            due("16: bad", x.keep(w[0], w[1]), BAD);
        }
    }

    private static void quarrelling() {
        KingsYear x = Kings.tried("nAax;mBad;mAcc;mBdf;mCee;nBxa;nBbb", "");
        due("14: how many", x.quarrels(0, 0), 5);
        due("14: the least", x.quarrels(0, 1), 2);
        KingsYear y = Kings.with("mAaa;mBbb;mCab;nAaa", "");
        y.trial(0, 1);
        y.trial(0, 2);
        due("14: of the bound ones", y.quarrels(0, 0), 1);
        due("14: the least of the bound", y.quarrels(0, 1), 14);
        y.trial(1, 3);
        due("14: no more", y.quarrels(1, 0), 1);
        y.trial(1, 0);
        due("14: then three", y.quarrels(1, 0), 3);
        due("14: and the least", y.quarrels(1, 1), 2);
        due("14: not in the year before", y.quarrels(0, 0), 1);
        KingsYear none = Kings.tried("mAaa;mBbb;nAcc;nBaa;mAaa", "");
        due("14: none", none.quarrels(0, 0), 0);
        due("14: no least", none.quarrels(0, 1), NONE);
        KingsYear most = Kings.tried("mAax;mBax;mCax;mDax;mEax;mFax;nAax;nBax;nCax;nDax;nEax;nFax", "");
        due("14: many", most.quarrels(0, 0), 15 + 6);
        KingsYear last = Kings.with(Kings.times("nAaa", 10) + ";mBxx;nBwx", "");
        last.trial(0, 10);
        last.trial(0, 11);
        due("14: the last pair", last.quarrels(0, 1), 131);
    }

    private static void exemptions() {
        KingsYear x = Kings.tried("mAgj;nBax;mCij;nAhh;nDii", "Ag5;Bi9;Ci2;Di8;Ei8");
        due("15: does it already", x.exempt(0, 6, 0, 0), 0);
        due("15: without any", x.exempt(0, 6, 0, 1), 0);
        due("15: an order out", x.exempt(0, 8, 2, 1), 1);
        due("15: how many", x.exempt(0, 8, 2, 0), 1);
        due("15: a want, and what hinders", x.exempt(0, 8, 1, 1), 7);
        due("15: three of them", x.exempt(0, 8, 1, 0), 3);
        due("15: the next want", x.exempt(0, 8, 4, 1), 5);
        due("15: its ban out, too", x.exempt(0, 8, 3, 1), 21);
        due("15: not wanted", x.exempt(0, 8, 5, 1), NONE);
        due("15: nor counted", x.exempt(0, 8, 5, 0), NONE);
        due("15: nothing while he wants", x.exempt(0, 8, NONE, 0), NONE);
        due("15: nothing", x.exempt(0, 7, NONE, 1), 1);
        due("15: by order past a ban", x.exempt(0, 7, 0, 1), 8);
        due("15: the less liked cannot be", Kings.tried("nBaa", "Aa9;Ca1").exempt(0, 0, 2, 1), NONE);
        due("15: laws that do not bind", Kings.with("nAaa", "Aa9").exempt(0, 0, NONE, 0), NONE);
        due("15: a ban stays", Kings.tried("nAaa;mBaa", "Aa9").exempt(0, 0, NONE, 1), 2);
        due("15: leaning laws stay in a set", Kings.tried("nAaa;nBaa;mCaa1", "Ba9").exempt(0, 0, 1, 1), 6);
        int[][] wrong = {{-1, 0, 0, 0}, {30, 0, 0, 0}, {0, -1, 0, 0}, {0, 24, 0, 0}, {0, 0, -2, 0}, {0, 0, 6, 0},
            {0, 0, 0, -1}, {0, 0, 0, 2}, {FAR_DOWN, 0, 0, 0}, {0, FAR_UP, 0, 0}, {0, 0, FAR_DOWN, 0}, {0, 0, 0, FAR_UP}};
        for (int[] w : wrong) {
            due("15: bad", x.exempt(w[0], w[1], w[2], w[3]), BAD);
        }
    }

    private static void keeping() {
        KingsYear x = Kings.tried("mAgj;nBax;mCij;nAhh;mDwb;nCii", "Ag5;Bi9;Ci2;Bg7;Da3");
        due("16: as bits", x.keep(0, 0), 30);
        due("16: joy by these", x.keep(0, 1), 10);
        due("16: no quarrel", Kings.tried("mAaa;nBaa", "Aa4").keep(0, 0), 3);
        due("16: no quarrel's joy", Kings.tried("mAaa;nBaa", "Aa4").keep(0, 1), 4);
        due("16: the most before joy", Kings.tried("mAax;nAbb;nAcc", "Ab9;Ac9").keep(0, 0), 6);
        due("16: joy among like many", Kings.tried("mAaa;mBaa", "Aa3;Ba4").keep(0, 0), 2);
        due("16: least among like", Kings.tried("mAaa;mBaa", "Aa4;Ba4").keep(0, 0), 1);
        due("16: least with no wants", Kings.tried("mAaa;mBaa;mCaa", "").keep(0, 0), 1);
        due("16: none binds", Kings.with("mAaa;mBaa", "Aa4").keep(0, 0), 0);
        due("16: joy with none", Kings.with("mAaa;mBaa", "Aa4").keep(0, 1), 4);
        String pairs = "mAaa;nAaa;mAbb;nAbb;mAcc;nAcc;mAdd;nAdd;mAee;nAee;mAff;nAff";
        due("16: six pairs", Kings.tried(pairs, "Aa1;Bb2;Ab1;Af5").keep(0, 0), 0b010101011001);
        due("16: six pairs' joy", Kings.tried(pairs, "Aa1;Bb2;Ab1;Af5").keep(0, 1), 8);
        KingsYear leaning = Kings.tried("nAaa;mAaa;nBbb1;nBbb1", "");
        due("16: leaning laws stay in a set", leaning.keep(0, 0), 13);
    }

    private static void orders() {
        KingsYear x = Kings.with("mAbb;nAbb;mBcc;nCdd0", "Ab4;Bc1;Cd2");
        due("17: how much", x.order(3, 4, NONE), (4 + 1 + 2) + (0 + 1 + 2));
        due("17: the first", x.order(3, 4, 0), 0);
        due("17: the second", x.order(3, 4, 1), 1);
        due("17: no third", x.order(3, 4, 2), NONE);
        due("17: no fourth", x.order(3, 4, 3), NONE);
        due("17: one law", x.order(2, 29, 0), 1);
        due("17: one law's joy", x.order(2, 29, NONE), 3);
        due("17: one law, no second", x.order(2, 29, 1), NONE);
        due("17: to year 29", x.order(15, 26, 3) >= 0 ? 1 : 0, 1);
        due("17: beyond year 29", x.order(15, 27, 3), BAD);
        due("17: two beyond", x.order(3, 29, 0), BAD);
        KingsYear five = Kings.with(Kings.times("mAaa", 5), "Aa1");
        due("17: five are too many", five.order(31, 0, NONE), BAD);
        due("17: four", five.order(30, 0, NONE), 4);
        due("17: of like ones the least row", five.order(30, 0, 0) * 1000 + five.order(30, 0, 1) * 100
            + five.order(30, 0, 2) * 10 + five.order(30, 0, 3), 1234);
        int[][] wrong = {{0, 0, 0}, {-1, 0, 0}, {32, 0, 0}, {1, -1, 0}, {1, 30, 0}, {1, 0, -2}, {1, 0, 4}, {FAR_DOWN, 0, 0},
            {FAR_UP, 0, 0}, {1, FAR_DOWN, 0}, {1, FAR_UP, 0}, {1, 0, FAR_DOWN}, {1, 0, FAR_UP}, {4096, 0, 0}};
        for (int[] w : wrong) {
            due("17: bad", five.order(w[0], w[1], w[2]), BAD);
        }
        due("17: faulty laws", Kings.with("mAaa;", "").order(1, 0, NONE), BAD);
        ordersAmongTrials();
    }

    private static void ordersAmongTrials() {
        // Law 1 hurts, law 0 heals by a clash-free order; told trials of them count for nothing.
        KingsYear x = Kings.with("nAaa;nBaa;nCaa", "Aa9;Ba5;Ca1");
        due("17: the lesser harm first", x.order(3, 0, 0), 1);
        due("17: its joy", x.order(3, 0, NONE), 9 + 1);
        x.trial(0, 0);
        due("17: told trials are replaced", x.order(3, 5, NONE), 10);
        x.trial(0, 2);
        due("17: others' trials stay", x.order(3, 5, NONE), 9);
        due("17: binds as before", x.binds(5, 0), 5);
        x.breach(5, 1);
        due("17: it lapses by a breach in its new year", x.order(3, 5, NONE), 9 + 5);
        due("17: so it is the first", x.order(3, 5, 0), 1);
        x.breach(5, 0);
        due("17: or the other", x.order(3, 5, NONE), 14);
        due("17: then both are like, and the least row counts", x.order(3, 5, 0), 0);
        KingsYear y = Kings.with("mBaa1;nAaa;nCaa", "Aa9;Ba5");
        due("17: leaning", y.order(3, 0, NONE), 9 + 5);
        due("17: leaning first", y.order(3, 0, 0), 0);
        due("17: leaving one out", y.order(1, 0, NONE), 9);
        y.trial(0, 1);
        due("17: leaning on a told trial", y.order(1, 3, NONE), 5);
        y.breach(0, 1);
        due("17: leaning on a lapsed one", y.order(1, 3, NONE), 9);
    }

    private static void seeing() {
        KingsYear x = new KingsYear();
        int[][] wrong = {{-1, 0}, {24, 0}, {0, -2}, {0, 6}, {FAR_DOWN, 0}, {FAR_UP, 0}, {0, FAR_DOWN}, {0, FAR_UP}};
        for (int[] w : wrong) {
            due("18: bad", x.seen(w[0], w[1]), BAD);
        }
        due("19: nothing to forget", x.forget(), 0);
        for (int n = 1; n <= 8; n++) {
            due("18: to eight", x.seen(n == 1 ? 0 : 23, n == 1 ? NONE : 5), n);
        }
        due("18: full", x.seen(0, 0), FULL);
        due("18: bad before full", x.seen(24, 0), BAD);
        due("18: still eight", x.count(6), 8);
        due("19: forget", x.forget(), 8);
        due("19: forgotten", x.count(6), 0);
        due("18: again", x.seen(23, 5), 1);
    }

    private static void reading() {
        KingsYear x = new KingsYear();
        due("20: lost", x.read(0), NULL);
        due("20: told by count", x.count(8), 1);
        for (int s : new int[] {-1, 4, FAR_DOWN, FAR_UP}) {
            due("20: bad", x.read(s), BAD);
        }
        x.sheet(0, 0, 7);
        int[] items = {3, -1, 23, 5, 0, 0, 9};
        for (int i = 0; i < items.length; i++) {
            x.lay(0, 0, i, items[i]);
        }
        due("20: the whole ones", x.read(0), 3);
        due("20: are seen", x.count(6), 3);
        due("20: as they are told", x.sets(0), 0);
        due("20: more of them", x.read(0), 3);
        due("20: six", x.count(6), 6);
        due("20: as long as there is room", x.read(0), 2);
        due("20: eight", x.count(6), 8);
        due("20: no room", x.read(0), 0);
        x.forget();
        x.lay(0, 0, 3, 6);
        due("20: to the first that may not be", x.read(0), 1);
        x.lay(0, 0, 0, 24);
        due("20: none may be", x.read(0), 0);
        due("20: one", x.count(6), 1);
        x.sheet(1, 2, 0);
        due("20: no items", x.read(1), 0);
        x.sheet(1, 1, 1);
        due("20: none whole", x.read(1), 0);
        x.forget();
        x.sheet(2, 2, 60);
        due("20: of sixty items", x.read(2), 8);
    }

    private static void sets() {
        KingsYear x = Kings.with("mAaa;nAbb;mBcc;nBaa", "Ab3;Bb2");
        due("21: all", x.sets(0), 16);
        due("21: the least of all", x.sets(1), 0);
        due("21: in all", x.sets(2), 0);
        x.seen(0, 0);
        due("21: with law 0", x.sets(0) * 100 + x.sets(1) * 10 + x.sets(2), 811);
        x.seen(1, 1);
        due("21: and law 1", x.sets(0) * 100 + x.sets(1) * 10 + x.sets(2), 433);
        x.seen(2, NONE);
        due("21: and not law 2", x.sets(0) * 100 + x.sets(1) * 10 + x.sets(2), 233);
        x.seen(2, 1);
        due("21: none", x.sets(0), 0);
        due("21: no least", x.sets(1), NONE);
        due("21: in all of none", x.sets(2), 0);
        x.forget();
        due("21: all again", x.sets(0), 16);
        x.seen(2, 1);
        due("21: law 2", x.sets(0) * 100 + x.sets(1) * 10 + x.sets(2), 844);
        x.type(1, ';');
        x.seen(1, NONE);
        due("21: by the wants of now", x.sets(0), 8);
        x.undo(1);
        due("21: wants again", x.sets(0), 0);
        x.type(0, ';');
        due("21: by the laws of now", x.sets(0), 0);
        due("21: leaning laws stay in a set", Kings.with("mAaa1;mBbb;mCcc0", "").sets(0), 8);
        due("21: no laws", new KingsYear().sets(0), 1);
        KingsYear full = Kings.with(Kings.times("mAaa", 12), "");
        due("21: of twelve laws", full.sets(0), 4096);
        full.seen(0, 0);
        due("21: some of twelve", full.sets(0) * 10 + full.sets(1), 40951);
        for (int what : new int[] {-1, 3, FAR_DOWN, FAR_UP}) {
            due("21: bad", x.sets(what), BAD);
        }
    }

    private static void watching() {
        KingsYear x = Kings.with("mAaa;nAbb;mBcc;nBaa", "Ab3;Bb2");
        due("22: one half", x.watch(), 0);
        x.seen(0, 0);
        due("22: the next", x.watch(), 1);
        x.seen(1, 0);
        due("22: the last", x.watch(), 2);
        x.seen(2, NONE);
        due("22: nothing to tell apart", x.watch(), 0);
        x.seen(2, 1);
        due("22: no set", x.watch(), 0);
        due("22: a clash is an outcome", Kings.with("mAab;mBbb", "").watch(), 1);
        due("22: of like ones the first", Kings.with("mAbc;mBdd", "").watch(), 1);
        due("22: wants tell bans apart", Kings.with("nAax", "Aw1").watch(), 22);
        due("22: the last hour", Kings.with("nAax", "Ax1").watch(), 23);
        due("22: no laws", new KingsYear().watch(), 0);
    }

    private static void gout(KingsYear x, int c, int hour, int deed, long above, long below) {
        String what = "23: gout " + c + " in " + hour + " to do " + deed;
        due(what + " above", x.gout(c, 0, hour, deed, 0), above);
        due(what + " below", x.gout(c, 0, hour, deed, 1), below);
    }

    private static void gouts() {
        KingsYear x = Kings.tried("mAgj;nBax;mCij;nAhh;nDii", "Ag5;Bi9;Ci2;Di8;Ei8");
        gout(x, 4, 8, 6, 9, 16);
        gout(x, 4, 8, 0, 3, 16);
        gout(x, 4, 8, 2, 3, 16);
        gout(x, 4, 8, 1, 1, 64);
        gout(x, 4, 8, 3, 3, 256);
        gout(x, 4, 8, 4, 9, 256);
        gout(x, 4, 8, 5, 0, 1);
        gout(x, 4, 8, NONE, 0, 1);
        gout(x, 0, 8, 6, 1, 1);
        gout(x, 0, 8, 1, 0, 1);
        gout(x, 16, 8, 1, 1, 1);
        gout(x, 16, 8, 6, 0, 1);
        gout(x, 5, 7, 6, 121, 256);
        gout(x, 5, 7, 0, 55, 256);
        gout(x, 5, 7, NONE, 5, 16);
        gout(x, 7, 3, NONE, 1, 1);
        gout(Kings.tried(Kings.times("mAaa", 12), ""), 1, 0, NONE, 1, 1L << 48);
        gout(Kings.tried(Kings.times("mAaa", 12), ""), 1, 0, 0, (1L << 48) - 1, 1L << 48);
        gout(Kings.tried(Kings.times("mAaa", 12), ""), 3, 0, 1, 0, 1);
        gout(Kings.tried(Kings.times("nAaa", 12), "Aa1"), 15, 0, 0, 129746337890625L, 1L << 48);
        gout(Kings.tried("nAaa;nBaa", "Aa1;Ba1"), 8, 0, NONE, 1, 4);
        gout(Kings.tried("nAaa;nBaa", "Aa1;Ba1"), 8, 0, 1, 1, 4);
        gout(Kings.with("mAaa", ""), 8, 0, 0, 0, 1);
        KingsYear leaning = Kings.tried("mAaa;mAaa0", "");
        due("23: leaning laws are forgotten by themselves", leaning.gout(8, 0, 0, 0, 0), 3);
        due("23: in another year", Kings.with("mAaa", "").gout(8, 29, 0, NONE, 0), 1);
        int[][] wrong = {{-1, 0, 0, 0, 0}, {17, 0, 0, 0, 0}, {0, -1, 0, 0, 0}, {0, 30, 0, 0, 0}, {0, 0, -1, 0, 0},
            {0, 0, 24, 0, 0}, {0, 0, 0, -2, 0}, {0, 0, 0, 7, 0}, {0, 0, 0, 0, -1}, {0, 0, 0, 0, 2}, {FAR_DOWN, 0, 0, 0, 0},
            {0, FAR_UP, 0, 0, 0}, {0, 0, FAR_DOWN, 0, 0}, {0, 0, 0, FAR_UP, 0}, {0, 0, 0, 0, FAR_DOWN}};
        for (int[] w : wrong) {
            due("23: bad", x.gout(w[0], w[1], w[2], w[3], w[4]), Long.MIN_VALUE + 2);
        }
    }

    private static void lots() {
        // Seed 0: 12345 (0), -1406932606 (44068), 654583775 (9988), 1449466924 (22117): by hand.
        KingsYear one = Kings.with("nAaa", "Aa7;Ba2");
        due("24: lapses with a lot of 0", one.years(0, 1, 0), 0);
        due("24: joy without it", one.years(0, 1, 1), 7);
        due("24: a law is tried once", one.years(0, 30, 0), 0);
        KingsYear two = Kings.with("nAaa;nBaa", "Aa7;Ba2");
        due("24: the second year", two.years(0, 2, 0), 0);
        due("24: kept by another seed", Kings.with("nAaa", "Aa7;Ba2").years(654583775, 1, 0), 1);
        due("24: and its joy", Kings.with("nAaa", "Aa7;Ba2").years(654583775, 1, 1), 2);
        KingsYear told = Kings.with("nAaa", "Aa7;Ba2");
        told.trial(0, 0);
        told.breach(0, 0);
        due("24: what is told is nothing", told.years(654583775, 30, 0) * 10 + told.years(0, 30, 1), 17);
        due("24: what is told stays", told.binds(0, 2), 1);
        due("24: leaning", Kings.with("nAaa0", "Aa7").years(654583775, 1, 0), 0);
        due("24: any seed", one.years(FAR_DOWN, 30, 0) >= 0 && one.years(FAR_UP, 30, 0) >= 0 ? 1 : 0, 1);
        int[][] wrong = {{0, 0, 0}, {0, 31, 0}, {0, -1, 0}, {0, 1, -1}, {0, 1, 2}, {0, FAR_DOWN, 0}, {0, FAR_UP, 0},
            {0, 1, FAR_DOWN}, {0, 1, FAR_UP}};
        for (int[] w : wrong) {
            due("24: bad", one.years(w[0], w[1], w[2]), BAD);
        }
        for (int seed = -600; seed < 600; seed += 100) {
            lotsOfManySeeds(seed);
        }
        due("24: no laws", new KingsYear().years(0, 1, 0), BAD);
        due("24: faulty laws", Kings.with("mAa", "Aa1").years(0, 1, 1), BAD);
    }

    /** With twelve laws and thirty years some are tried first in year 29, where they bind the king alone. */
    private static void lotsOfManySeeds(int first) {
        String laws = "nAaa;nBaa;nCaa;nDaa;nEaa;nFaa;nAbb;nBbb;nCbb;nDbb;nEbb0;nFbb";
        String wants = "Aa9;Ba8;Ca7;Da6;Ea5;Fa4;Ab6;Bb5;Cb4;Db3;Eb2;Fb1";
        KingsYear x = Kings.with(laws, wants);
        Oracle y = new Oracle();
        for (int i = 0; i < laws.length(); i++) {
            y.type(0, laws.charAt(i));
        }
        for (int i = 0; i < wants.length(); i++) {
            y.type(1, wants.charAt(i));
        }
        for (int seed = first; seed < first + 100; seed++) {
            int n = seed % 5 == 0 ? 29 : 30;
            due("24: how many by seed " + seed, x.years(seed * 7919, n, 0), y.years(seed * 7919, n, 0));
            due("24: joy by seed " + seed, x.years(seed * 7919, n, 1), y.years(seed * 7919, n, 1));
        }
    }

    private static void sheets() {
        KingsYear x = new KingsYear();
        due("25: none", x.sheet(0, 0, 0), 0);
        due("25: sixty", x.sheet(3, 2, 60), 60);
        due("25: more than sixty", x.sheet(1, 1, 61), BAD);
        due("25: far more", x.sheet(1, 1, FAR_UP), BAD);
        due("25: sheet", x.sheet(-1, 0, 1) + x.sheet(4, 0, 1) + x.sheet(FAR_UP, 0, 1), 3 * BAD);
        due("25: form", x.sheet(0, -1, 1) + x.sheet(0, 3, 1) + x.sheet(0, FAR_DOWN, 1), 3 * BAD);
        due("25: bad before size", x.sheet(4, 0, -1) + x.sheet(0, 3, -1), 2 * BAD);
        due("25: bad is no finding", x.count(8), 0);
        due("25: below 0", x.sheet(0, 0, -1), SIZE);
        due("25: far below 0", x.sheet(3, 0, FAR_DOWN), SIZE);
        due("25: told by count", x.count(8), 5);
        due("25: size changes nothing", x.lose(3), 60);
        due("26: lost", x.lose(3), NULL);
        due("26: none", x.lose(0), 0);
        due("26: bad", x.lose(-1) + x.lose(4) + x.lose(FAR_DOWN) + x.lose(FAR_UP), 4 * BAD);
        due("26: told by count", x.count(8), 1);
        x.sheet(2, 2, 5);
        x.lay(2, 2, 4, 99);
        due("25: anew", x.sheet(2, 2, 9), 9);
        due("25: items are 0 at first", x.get(2, 2, 4), 0);
        x.lay(2, 2, 8, 77);
        x.sheet(2, 2, 3);
        x.sheet(2, 2, 9);
        due("25: nothing of before", x.get(2, 2, 8), 0);
    }

    private static void items() {
        KingsYear x = new KingsYear();
        for (int form = 0; form < 3; form++) {
            x.sheet(form, form, 4);
        }
        int[] laid = {127, 128, 255, -129, 32767, 32768, -32769, FAR_UP, FAR_DOWN, 0x12345678, -1};
        for (int v : laid) {
            due("27: a byte", x.lay(0, 0, 3, v) * 1000 + x.get(0, 0, 3), 1000 + (byte) v);
            due("27: a short", x.lay(1, 1, 0, v) * 100000 + x.get(1, 1, 0), 100000 + (short) v);
            due("27: an int", x.lay(2, 2, 1, v), 1);
            due("28: an int", x.get(2, 2, 1), v);
        }
        due("28: others stay", x.get(0, 0, 2), 0);
        int[][] refused = {{-1, 0, 0, BAD, 0}, {4, 0, 0, BAD, 0}, {0, -1, 0, BAD, 0}, {0, 3, 0, BAD, 0}, {3, 3, -1, BAD, 0},
            {3, 0, 0, NULL, 1}, {3, 2, -1, NULL, 1}, {0, 1, 0, CAST, 3}, {1, 2, 9, CAST, 3}, {2, 0, -1, CAST, 3},
            {0, 0, 4, INDEX, 2}, {1, 1, -1, INDEX, 2}, {2, 2, FAR_UP, INDEX, 2}, {2, 2, FAR_DOWN, INDEX, 2},
            {FAR_DOWN, 0, 0, BAD, 0}, {FAR_UP, 0, 0, BAD, 0}, {0, FAR_DOWN, 0, BAD, 0}, {0, FAR_UP, 0, BAD, 0}};
        for (int[] r : refused) {
            String what = r[0] + ", " + r[1] + ", " + r[2];
            x.sheet(0, 0, -1);
            due("27: lay " + what, x.lay(r[0], r[1], r[2], 5), r[3]);
            due("27: count 8 after lay " + what, x.count(8), r[4] == 0 ? 5 : r[4]);
            x.sheet(0, 0, -1);
            due("28: get " + what, x.get(r[0], r[1], r[2]), FAR_DOWN);
            due("28: count 8 after get " + what, x.count(8), r[4] == 0 ? 5 : r[4]);
        }
        due("27: refused changes nothing", x.get(0, 0, 0) + x.get(1, 1, 1) + x.get(2, 2, 0), 0);
        x.sheet(0, 0, 0);
        due("27: no items", x.lay(0, 0, 0, 1), INDEX);
    }

    private static KingsYear counted() {
        KingsYear x = new KingsYear();
        x.sheet(0, 1, 6);
        x.sheet(1, 1, 4);
        x.sheet(2, 2, 6);
        for (int i = 0; i < 6; i++) {
            x.lay(0, 1, i, i + 1);
        }
        return x;
    }

    private static long row(KingsYear x, int s, int n) {
        long all = 0;
        for (int i = 0; i < n; i++) {
            all = 10 * all + x.get(s, 1, i);
        }
        return all;
    }

    private static void copies() {
        KingsYear x = counted();
        due("29: to another", x.copy(0, 1, 1, 2, 2), 1);
        due("29: as told", row(x, 1, 4), 23);
        due("29: up in itself", x.copy(0, 0, 0, 2, 4), 1);
        due("29: as they were", row(x, 0, 6), 121234);
        x = counted();
        due("29: down in itself", x.copy(0, 2, 0, 0, 4), 1);
        due("29: as they were, too", row(x, 0, 6), 345656);
        x = counted();
        due("29: none", x.copy(0, 6, 1, 4, 0), 1);
        due("29: all", x.copy(0, 0, 0, 0, 6), 1);
        int[][] outside = {{0, -1, 1, 0, 1}, {0, 0, 1, -1, 1}, {0, 0, 1, 0, -1}, {0, 5, 1, 0, 2}, {0, 0, 1, 3, 2}, {0, 7, 1, 0, 0},
            {0, 0, 1, 5, 0}, {0, FAR_UP, 1, 0, FAR_UP}, {0, 1, 1, 1, FAR_UP}, {0, FAR_DOWN, 1, 0, FAR_DOWN}, {0, 0, 1, FAR_UP, 1},
            {0, FAR_UP, 1, 0, 1}, {0, 0, 1, 0, 5}, {1, 0, 0, 0, 5}};
        for (int[] o : outside) {
            x.sheet(0, 0, -1);
            due("29: index", x.copy(o[0], o[1], o[2], o[3], o[4]), INDEX);
            due("29: told by count", x.count(8), 2);
        }
        due("29: refused changes nothing", row(x, 0, 6) * 10000 + row(x, 1, 4), 1234560000L);
        due("29: unlike forms", x.copy(0, 0, 2, 0, 1), STORE);
        due("29: store told by count", x.count(8), 4);
        due("29: store before index", x.copy(2, -1, 0, 0, 99), STORE);
        due("29: from a lost one", x.copy(3, 0, 0, 0, 1), NULL);
        due("29: null told by count", x.count(8), 1);
        due("29: to a lost one", x.copy(0, -1, 3, 0, 1), NULL);
        x.sheet(0, 0, -1);
        due("29: bad", x.copy(-1, 0, 0, 0, 0) + x.copy(4, 0, 3, 0, 0) + x.copy(0, 0, -1, 0, 0) + x.copy(3, 0, 4, 0, 0), 4 * BAD);
        due("29: far off", x.copy(FAR_DOWN, 0, 0, 0, 0) + x.copy(0, 0, FAR_UP, 0, 0), 2 * BAD);
        due("29: bad is no finding", x.count(8), 5);
    }

    private static void writing() {
        KingsYear x = Kings.with("mAgj;mBhh", "Fa1");
        x.trial(2, 0);
        x.trial(3, 1);
        x.sheet(0, 0, 30);
        for (int i = 0; i < 30; i++) {
            x.lay(0, 0, i, 9);
        }
        due("30: 24 at most", x.write(3, 0), 24);
        int[] does = {5, -1, -1, -1, -1, -1, 0, 6, 0, 0, -1};
        for (int hour = 0; hour < does.length; hour++) {
            due("30: hour " + hour, x.get(0, 0, hour), does[hour]);
        }
        due("30: the last hour", x.get(0, 0, 23), NONE);
        due("30: behind it", x.get(0, 0, 24), 9);
        due("30: another year", x.write(2, 0) * 10 + x.get(0, 0, 7), 240);
        x.sheet(1, 2, 8);
        due("30: as many as there are", x.write(3, 1) * 10 + x.get(1, 2, 7), 86);
        x.sheet(2, 1, 0);
        due("30: no items", x.write(3, 2), 0);
        x.sheet(2, 1, 24);
        due("30: shorts", x.write(3, 2) * 10 + x.get(2, 1, 1), 239);
        due("30: lost", x.write(0, 3), NULL);
        due("30: told by count", x.count(8), 1);
        due("30: bad year", x.write(-1, 0) + x.write(30, 0) + x.write(FAR_UP, 3) + x.write(FAR_DOWN, 0), 4 * BAD);
        due("30: bad sheet", x.write(0, -1) + x.write(0, 4) + x.write(0, FAR_UP) + x.write(0, FAR_DOWN), 4 * BAD);
    }

    private static void counts() {
        KingsYear x = Kings.with("mAgj;mBhh;mCii0", "Fa1;Fb2");
        x.trial(2, 0);
        x.trial(2, 1);
        x.trial(29, 2);
        x.trial(1, 7);
        x.breach(2, 1);
        x.seen(0, 0);
        x.read(3);
        int[] due = {3, 2, 15, 7, 4, 1, 1, 1, 1};
        for (int what = 0; what <= 8; what++) {
            due("31: count " + what, x.count(what), due[what]);
        }
        x.back(0);
        x.back(0);
        x.trial(28, 2);
        due("31: laws that bind all others in year 29", x.count(7), 2);
        for (int what : new int[] {-1, 9, FAR_DOWN, FAR_UP}) {
            due("31: bad", x.count(what), BAD);
        }
        due("31: bad is no finding", x.count(8), 1);
    }

    private static void digests() {
        KingsYear x = new KingsYear();
        Oracle y = new Oracle();
        due("32: new", x.digest(), y.digest());
        for (String[] text : new String[][] {{"mBaa;nBax;mAiu0;mCau9;mBuu1", "Aa3;Ba2;Bi5;Cu7;Bu7"}, {"mAaa;", "Ba3"}, {"nBax", "Bi"}}) {
            for (int k = 0; k < 2; k++) {
                x.wipe(k);
                y.wipe(k);
                for (int i = 0; i < text[k].length(); i++) {
                    x.type(k, text[k].charAt(i));
                    y.type(k, text[k].charAt(i));
                }
            }
            due("32: with texts", x.digest(), y.digest());
            for (int law = 0; law < 4; law++) {
                due("32: a trial", x.trial(law, 3 - law), y.trial(law, 3 - law));
                due("32: with trials", x.digest(), y.digest());
            }
            due("32: a breach", x.breach(1, 2), y.breach(1, 2));
            due("32: with a breach", x.digest(), y.digest());
            due("32: a seen one", x.seen(20, 1), y.seen(20, 1));
            due("32: with a seen one", x.digest(), y.digest());
        }
        long before = x.digest();
        x.lose(0);
        due("32: findings are not in it", x.digest(), before);
        due("32: it changes nothing", x.count(8), 1);
    }
}

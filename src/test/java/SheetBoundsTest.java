import java.util.ArrayList;
import java.util.List;

/** Promises 25 to 32 at the bounds that the document names: the last input that is well, the first that is refused. */
public final class SheetBoundsTest {
    private static final int NONE = Kings.NONE, BAD = Kings.BAD;
    private static final int NULL = Kings.NULL, INDEX = Kings.INDEX, CAST = Kings.CAST, STORE = Kings.STORE, SIZE = Kings.SIZE;
    private static final int FAR_DOWN = Kings.FAR_DOWN, FAR_UP = Kings.FAR_UP;
    private static final int LEAST = Integer.MIN_VALUE;
    private static final Check CHECK = new Check();
    private static final Twins TWINS = new Twins(CHECK);

    public static void main(String[] args) {
        sheetNumbers();
        sheetSizes();
        newRows();
        losing();
        layNumbers();
        lowestBits();
        layFindings();
        getFindings();
        itemsOfTheLastIndex();
        copyNumbers();
        copyFindings();
        copiesToTheEnds();
        copiesAsTheyWere();
        writeNumbers();
        writesAsManyAsThereAre();
        writesEachForm();
        countNumbers();
        countsToTheEnds();
        latestFinding();
        digests();
        digestChangesNothing();
        theLastCall();
        CHECK.end("SheetBoundsTest", 25, 32);
    }

    private static void due(String what, long got, long want) {
        CHECK.due(what, got, want);
    }

    // ---- promise 25: "A SHEET is a new row of a FORM with n items: n. BAD: SHEET, FORM, above 60; SIZE."

    private static void sheetNumbers() {
        TWINS.ends("25: sheet", Kings::rich, new int[][] {{0, 3}, {0, 2}}, BAD, (x, a) -> x.sheet(a[0], a[1], 2));
        for (int s = 0; s < 4; s++) {
            for (int form = 0; form < 3; form++) {
                int[] a = {s, form};
                TWINS.refused("25: 61 items", Kings::rich, x -> x.sheet(a[0], a[1], 61), BAD);
                TWINS.refused("25: far more items", Kings::rich, x -> x.sheet(a[0], a[1], FAR_UP), BAD);
                TWINS.refused("25: one below 0", Kings::rich, x -> x.sheet(a[0], a[1], -1), SIZE);
                TWINS.refused("25: far below 0", Kings::rich, x -> x.sheet(a[0], a[1], FAR_DOWN), SIZE);
            }
        }
        TWINS.refused("25: BAD comes before SIZE, the sheet", Kings::rich, x -> x.sheet(4, 0, -1), BAD);
        TWINS.refused("25: BAD comes before SIZE, the form", Kings::rich, x -> x.sheet(0, 3, -1), BAD);
        TWINS.refused("25: all wrong", Kings::rich, x -> x.sheet(-1, -1, 61), BAD);
        TWINS.refused("25: SIZE of a new object", KingsYear::new, x -> x.sheet(0, 0, -1), SIZE);
    }

    private static void sheetSizes() {
        for (int form = 0; form < 3; form++) {
            for (int n = 0; n <= 60; n++) {
                KingsYear x = new KingsYear();
                due("25: a row of " + n, x.sheet(3, form, n), n);
                due("26: it had " + n, x.lose(3), n);
            }
        }
    }

    /** "(0 at first)": nothing is left of what was there. */
    private static void newRows() {
        for (int form = 0; form < 3; form++) {
            KingsYear x = new KingsYear();
            x.sheet(0, 2, 60);
            for (int i = 0; i < 60; i++) {
                x.lay(0, 2, i, -1);
            }
            x.sheet(0, form, 7);
            x.sheet(0, form, 60);
            for (int i = 0; i < 60; i++) {
                due("25: item " + i + " is 0 at first, form " + form, x.get(0, form, i), 0);
            }
            due("25: it has this form", x.lay(0, form, 59, 1), 1);
            due("25: it has no other", x.lay(0, (form + 1) % 3, 0, 1), CAST);
        }
        KingsYear x = new KingsYear();
        x.sheet(0, 2, 3);
        x.sheet(1, 2, 3);
        x.lay(0, 2, 0, 5);
        x.sheet(1, 2, 3);
        due("25: other sheets stay", x.get(0, 2, 0) * 10 + x.get(1, 2, 0), 50);
        x.lose(0);
        x.sheet(0, 2, 3);
        due("25: a row where one was lost", x.get(0, 2, 0), 0);
    }

    // ---- promise 26: "It is LOST: how many items it had. BAD; NULL."

    private static void losing() {
        TWINS.ends("26: lose", Kings::rich, new int[][] {{0, 3}}, BAD, (x, a) -> x.lose(a[0]));
        TWINS.refused("26: a lost one", Kings::rich, x -> x.lose(3), NULL);
        for (int s = 0; s < 4; s++) {
            int lost = s;
            TWINS.refused("26: sheet " + s + " of a new object", KingsYear::new, x -> x.lose(lost), NULL);
        }
        KingsYear x = Kings.rich();
        due("26: how many it had", x.lose(0) * 100 + x.lose(1) * 10 + x.lose(2), 456);
        due("26: it is no finding", x.count(8), 5);
        due("26: lost twice", x.lose(0), NULL);
        x.sheet(0, 1, 0);
        due("26: a row of none is not lost", x.lose(0), 0);
        due("26: then it is", x.lose(0), NULL);
    }

    // ---- promise 27: "Item i, treated as of a FORM, becomes v (the lowest bits that it has): 1. BAD; NULL; CAST; INDEX."

    private static void layNumbers() {
        TWINS.ends("27: lay", Kings::rich, new int[][] {{0, 3}, {0, 2}}, BAD, (x, a) -> x.lay(a[0], a[1], 0, 1));
        TWINS.refused("27: BAD comes before NULL", Kings::rich, x -> x.lay(3, 3, -1, 1), BAD);
        TWINS.refused("27: BAD comes before CAST and INDEX", Kings::rich, x -> x.lay(0, -1, 99, 1), BAD);
    }

    private static void lowestBits() {
        int[] values = {0, 1, -1, 127, 128, 129, 255, 256, 257, -127, -128, -129, -255, -256, -257, 32767, 32768, 32769, 65535, 65536,
            65537, -32767, -32768, -32769, -65535, -65536, -65537, FAR_UP, FAR_DOWN, FAR_UP - 1, FAR_DOWN + 1, 0x7f80, 0x80ff, 0x12345678};
        KingsYear x = new KingsYear();
        for (int form = 0; form < 3; form++) {
            x.sheet(form, form, 3);
            x.lay(form, form, 0, 7);
            x.lay(form, form, 2, 9);
        }
        for (int v : values) {
            due("27: a byte of " + v, x.lay(0, 0, 1, v) * 1000 + x.get(0, 0, 1), 1000 + signed(v, 256));
            due("27: a short of " + v, x.lay(1, 1, 1, v) * 100000 + x.get(1, 1, 1), 100000 + signed(v, 65536));
            due("27: an int of " + v, x.lay(2, 2, 1, v), 1);
            due("28: that int " + v, x.get(2, 2, 1), v);
        }
        for (int form = 0; form < 3; form++) {
            due("27: its neighbours stay", x.get(form, form, 0) * 10 + x.get(form, form, 2), 79);
        }
        due("27: it is no finding", x.count(8), 0);
    }

    /** What is left of v modulo so many, the upper half of which is below 0. */
    private static int signed(int v, int many) {
        int rest = Math.floorMod(v, many);
        return rest < many / 2 ? rest : rest - many;
    }

    /** Sheets 0, 1, 2 of rich() are of forms 0, 1, 2 with 4, 5, 6 items; 3 is lost. */
    private static void layFindings() {
        for (int form = 0; form < 3; form++) {
            for (int i : new int[] {0, -1, 60, FAR_DOWN, FAR_UP}) {
                int[] a = {form, i};
                TWINS.refused("27: a lost sheet", Kings::rich, x -> x.lay(3, a[0], a[1], 1), NULL);
                TWINS.refused("27: CAST comes before INDEX", Kings::rich, x -> x.lay(a[0], (a[0] + 1) % 3, a[1], 1), CAST);
                TWINS.refused("27: another form", Kings::rich, x -> x.lay(a[0], (a[0] + 2) % 3, a[1], 1), CAST);
            }
            for (int i : new int[] {-1, 4 + form, 60, FAR_DOWN, FAR_UP}) {
                int[] a = {form, i};
                TWINS.refused("27: there is no item " + i, Kings::rich, x -> x.lay(a[0], a[0], a[1], 1), INDEX);
            }
        }
        TWINS.refused("27: no items at all", () -> ofSize(0), x -> x.lay(0, 0, 0, 1), INDEX);
    }

    private static KingsYear ofSize(int n) {
        KingsYear x = new KingsYear();
        x.sheet(0, 0, n);
        return x;
    }

    // ---- promise 28: "Item i of it. BAD: the least int; so are NULL, CAST, INDEX (count() 8 tells)."

    private static void getFindings() {
        for (int wrong : new int[] {-1, 4, FAR_DOWN, FAR_UP}) {
            TWINS.refused("28: there is no sheet " + wrong, Kings::rich, x -> x.get(wrong, 0, 0), LEAST, 0);
        }
        for (int wrong : new int[] {-1, 3, FAR_DOWN, FAR_UP}) {
            TWINS.refused("28: there is no form " + wrong, Kings::rich, x -> x.get(0, wrong, 0), LEAST, 0);
        }
        TWINS.refused("28: BAD comes before NULL", Kings::rich, x -> x.get(3, 3, 0), LEAST, 0);
        TWINS.refused("28: BAD comes before CAST and INDEX", Kings::rich, x -> x.get(0, -1, 99), LEAST, 0);
        for (int form = 0; form < 3; form++) {
            for (int i : new int[] {0, -1, 60, FAR_DOWN, FAR_UP}) {
                int[] a = {form, i};
                TWINS.refused("28: a lost sheet", Kings::rich, x -> x.get(3, a[0], a[1]), LEAST, 1);
                TWINS.refused("28: CAST comes before INDEX", Kings::rich, x -> x.get(a[0], (a[0] + 1) % 3, a[1]), LEAST, 3);
                TWINS.refused("28: another form", Kings::rich, x -> x.get(a[0], (a[0] + 2) % 3, a[1]), LEAST, 3);
            }
            for (int i : new int[] {-1, 4 + form, 60, FAR_DOWN, FAR_UP}) {
                int[] a = {form, i};
                TWINS.refused("28: there is no item " + i, Kings::rich, x -> x.get(a[0], a[0], a[1]), LEAST, 2);
            }
        }
        TWINS.asksOnly("28: get", Kings::rich, x -> x.get(2, 2, 5));
    }

    private static void itemsOfTheLastIndex() {
        for (int n : new int[] {1, 2, 59, 60}) {
            KingsYear x = ofSize(n);
            due("27: the last of " + n, x.lay(0, 0, n - 1, 5), 1);
            due("28: the last of " + n, x.get(0, 0, n - 1), 5);
            due("27: one behind it", x.lay(0, 0, n, 5), INDEX);
            due("28: one behind it", x.get(0, 0, n), LEAST);
        }
        KingsYear x = new KingsYear();
        x.sheet(0, 2, 1);
        x.lay(0, 2, 0, LEAST);
        due("28: an item may be the least int", x.get(0, 2, 0), LEAST);
        due("28: which is no finding", x.count(8), 0);
    }

    // ---- promise 29: "n items of SHEET s, from i on, come to SHEET t (perhaps s, as they were), from j on: 1."

    private static void copyNumbers() {
        TWINS.ends("29: copy", Kings::rich, new int[][] {{0, 3}, {0, 3}}, BAD, (x, a) -> x.copy(a[0], 0, a[1], 0, 1));
        TWINS.refused("29: BAD comes before NULL", Kings::rich, x -> x.copy(3, -1, 4, 0, 0), BAD);
        TWINS.refused("29: BAD comes before NULL of the other", Kings::rich, x -> x.copy(4, 0, 3, -1, 0), BAD);
    }

    /** Sheets of 5 and 3 shorts; 5 ints; 3 is lost. */
    private static KingsYear rows() {
        KingsYear x = new KingsYear();
        x.sheet(0, 1, 5);
        x.sheet(1, 1, 3);
        x.sheet(2, 2, 5);
        for (int i = 0; i < 5; i++) {
            x.lay(0, 1, i, i + 1);
            x.lay(2, 2, i, i + 1);
        }
        return x;
    }

    private static void copyFindings() {
        int[][] refused = {{3, 0, 0, 0, 1, NULL}, {0, 0, 3, 0, 1, NULL}, {3, 0, 3, 0, 0, NULL}, {3, -1, 2, 9, -1, NULL}, {0, -1, 3, 9, -1, NULL},
            {0, 0, 2, 0, 1, STORE}, {2, 0, 1, 0, 1, STORE}, {0, -1, 2, 0, 1, STORE}, {0, 0, 2, 0, -1, STORE}, {0, 0, 2, 99, 0, STORE},
            {0, 0, 2, 0, 0, STORE}, {0, -1, 1, 0, 1, INDEX}, {0, 0, 1, -1, 1, INDEX}, {0, 0, 1, 0, -1, INDEX}, {0, -1, 1, 0, 0, INDEX},
            {0, 0, 1, -1, 0, INDEX}, {0, 5, 1, 0, 1, INDEX}, {0, 4, 1, 0, 2, INDEX}, {0, 0, 1, 3, 1, INDEX}, {0, 0, 1, 2, 2, INDEX},
            {0, 0, 1, 0, 4, INDEX}, {1, 0, 0, 0, 4, INDEX}, {0, 0, 0, 0, 6, INDEX}, {0, 1, 0, 0, 5, INDEX}, {0, 0, 0, 1, 5, INDEX},
            {0, 6, 1, 0, 0, INDEX}, {0, 0, 1, 4, 0, INDEX}, {0, FAR_UP, 1, 0, 1, INDEX}, {0, 0, 1, FAR_UP, 1, INDEX},
            {0, 0, 1, 0, FAR_UP, INDEX}, {0, FAR_UP, 1, FAR_UP, FAR_UP, INDEX}, {0, 1, 1, 1, FAR_UP, INDEX}, {0, FAR_DOWN, 1, 0, 1, INDEX},
            {0, 0, 1, FAR_DOWN, 1, INDEX}, {0, 0, 1, 0, FAR_DOWN, INDEX}, {0, FAR_DOWN, 1, FAR_DOWN, FAR_DOWN, INDEX},
            {0, 2, 1, 2, FAR_UP - 1, INDEX}, {0, FAR_UP, 1, 0, 2, INDEX}};
        for (int[] r : refused) {
            String what = "29: copy " + r[0] + " " + r[1] + " " + r[2] + " " + r[3] + " " + r[4];
            TWINS.refused(what, SheetBoundsTest::rows, x -> x.copy(r[0], r[1], r[2], r[3], r[4]), r[5]);
        }
    }

    private static long row(KingsYear x, int s, int n) {
        long all = 0;
        for (int i = 0; i < n; i++) {
            all = 10 * all + x.get(s, 1, i);
        }
        return all;
    }

    private static void copied(String what, int s, int i, int t, int j, int n, long first, long second) {
        KingsYear x = rows();
        x.lay(1, 1, 0, 7);
        x.lay(1, 1, 1, 8);
        x.lay(1, 1, 2, 9);
        due("29: " + what, x.copy(s, i, t, j, n), 1);
        due("29: sheet 0, " + what, row(x, 0, 5), first);
        due("29: sheet 1, " + what, row(x, 1, 3), second);
        due("29: no finding, " + what, x.count(8), 0);
    }

    private static void copiesToTheEnds() {
        copied("none", 0, 0, 1, 0, 0, 12345, 789);
        copied("none at the ends", 0, 5, 1, 3, 0, 12345, 789);
        copied("the last to the last", 0, 4, 1, 2, 1, 12345, 785);
        copied("the first to the first", 1, 0, 0, 0, 1, 72345, 789);
        copied("all that there is room for", 0, 2, 1, 0, 3, 12345, 345);
        copied("all that there are", 1, 0, 0, 2, 3, 12789, 789);
        copied("all of one, onto itself", 0, 0, 0, 0, 5, 12345, 789);
        KingsYear x = new KingsYear();
        x.sheet(0, 0, 60);
        x.sheet(1, 0, 60);
        x.lay(0, 0, 0, 3);
        x.lay(0, 0, 59, 4);
        due("29: sixty", x.copy(0, 0, 1, 0, 60), 1);
        due("29: the first and the last", x.get(1, 0, 0) * 10 + x.get(1, 0, 59), 34);
        due("29: sixty-one", x.copy(0, 0, 1, 0, 61), INDEX);
        x.sheet(2, 0, 0);
        due("29: none of none", x.copy(2, 0, 2, 0, 0), 1);
        due("29: one of none", x.copy(2, 0, 2, 0, 1), INDEX);
    }

    private static void copiesAsTheyWere() {
        copied("up by one", 0, 0, 0, 1, 4, 11234, 789);
        copied("down by one", 0, 1, 0, 0, 4, 23455, 789);
        copied("up by two", 0, 0, 0, 2, 3, 12123, 789);
        copied("down by two", 0, 2, 0, 0, 3, 34545, 789);
        copied("apart", 0, 0, 0, 3, 2, 12312, 789);
        KingsYear x = rows();
        x.copy(0, 0, 1, 0, 3);
        x.lay(0, 1, 0, 9);
        due("29: a copy is another row", row(x, 1, 3), 123);
    }

    // ---- promise 30: "as many as there are items, 24 at most: how many. BAD; NULL."

    private static void writeNumbers() {
        TWINS.ends("30: write", Kings::rich, new int[][] {{0, 29}, {0, 3}}, BAD, (x, a) -> x.write(a[0], a[1]));
        TWINS.refused("30: a lost sheet", Kings::rich, x -> x.write(0, 3), NULL);
        TWINS.refused("30: BAD comes before NULL", Kings::rich, x -> x.write(30, 3), BAD);
        TWINS.refused("30: a new object", KingsYear::new, x -> x.write(29, 0), NULL);
    }

    private static void writesAsManyAsThereAre() {
        for (int n = 0; n <= 60; n++) {
            KingsYear x = Kings.tried("mAax;mBwx", "");
            x.sheet(0, 0, n);
            for (int i = 0; i < n; i++) {
                x.lay(0, 0, i, 9);
            }
            due("30: of " + n + " items", x.write(0, 0), Math.min(n, 24));
            for (int i = 0; i < n; i++) {
                int done = i < 22 ? 0 : 6;
                due("30: item " + i + " of " + n, x.get(0, 0, i), i < 24 ? done : 9);
            }
            due("30: it has as many as before", x.lose(0), n);
        }
    }

    private static void writesEachForm() {
        for (int form = 0; form < 3; form++) {
            KingsYear x = Kings.with("mFaa;nFbb;mFbb", "Ec1");
            x.sheet(1, form, 4);
            x.trial(29, 0);
            x.trial(29, 1);
            x.trial(29, 2);
            due("30: form " + form, x.write(29, 1), 4);
            due("30: a deed", x.get(1, form, 0), 5);
            due("30: a clash", x.get(1, form, 1), 6);
            due("30: a want", x.get(1, form, 2), 4);
            due("30: nothing", x.get(1, form, 3), NONE);
            due("30: the year before", x.write(28, 1), 4);
            due("30: none binds then", x.get(1, form, 0) * 10 + x.get(1, form, 1), 11 * NONE);
            due("30: it is no finding", x.count(8), 0);
        }
    }

    // ---- promise 31: "8 the number of the latest FINDING (0 before any). BAD."

    private static void countNumbers() {
        TWINS.ends("31: count", Kings::rich, new int[][] {{0, 8}}, BAD, (x, a) -> x.count(a[0]));
        TWINS.ends("31: count of a new object", KingsYear::new, new int[][] {{0, 8}}, BAD, (x, a) -> x.count(a[0]));
        for (int what = 0; what <= 8; what++) {
            int asked = what;
            TWINS.asksOnly("31: count " + what, Kings::rich, x -> x.count(asked));
        }
    }

    private static void countsToTheEnds() {
        KingsYear x = Kings.fullTexts();
        due("31: laws and wants", x.count(0) * 100 + x.count(1), 1212);
        due("31: bytes", x.count(2) * 100 + x.count(3), 7147);
        KingsYear y = Kings.crowded();
        due("31: trials, breaches, seen", y.count(4) * 1000 + y.count(5) * 10 + y.count(6), 12128);
        KingsYear last = Kings.with(Kings.times("nAaa", 12), "");
        for (int law = 0; law < 11; law++) {
            last.trial(28, law);
        }
        last.trial(29, 11);
        due("31: those tried in year 29 do not bind all others in it", last.count(7), 11);
        last.back(0);
        last.trial(28, 11);
        due("31: all twelve", last.count(7), 12);
        last.breach(28, 0);
        due("31: one lapses", last.count(7), 11);
        KingsYear faulty = Kings.tried("nAaa;nBaa", "Aa1");
        faulty.type(0, ';');
        faulty.type(1, ';');
        due("31: with faults", faulty.count(0) + faulty.count(1) + faulty.count(7), 0);
        due("31: bytes with faults", faulty.count(2) * 10 + faulty.count(3), 104);
        due("31: trials with faults", faulty.count(4), 2);
    }

    private static void latestFinding() {
        KingsYear x = rows();
        due("31: before any", x.count(8), 0);
        x.sheet(0, 0, 61);
        x.lay(0, 3, 0, 0);
        x.get(4, 0, 0);
        x.back(0);
        due("31: BAD and NOT are none", x.count(8), 0);
        x.lose(3);
        due("31: NULL", x.count(8), 1);
        x.get(0, 1, 5);
        due("31: INDEX", x.count(8), 2);
        x.lay(0, 0, 0, 0);
        due("31: CAST", x.count(8), 3);
        x.copy(0, 0, 2, 0, 1);
        due("31: STORE", x.count(8), 4);
        x.sheet(0, 0, -1);
        due("31: SIZE", x.count(8), 5);
        x.get(0, 1, 0);
        x.lay(0, 1, 0, 3);
        x.count(9);
        x.lose(2);
        due("31: the latest stays", x.count(8), 5);
        x.read(3);
        due("31: NULL again", x.count(8), 1);
        x.write(0, 0);
        x.forget();
        x.wipe(0);
        due("31: it stays, whatever is well", x.count(8), 1);
    }

    // ---- promise 32: the row of answers, folded

    private static void digests() {
        KingsYear late = Kings.with("mBau;nAbu;mCii;mDaa;nEcc;nFdd", "Ba1;Bi2;Bu3;Ab4;Ec5;Fd6");
        late.trial(29, 0);
        late.trial(2, 2);
        late.trial(3, 1);
        late.breach(2, 0);
        KingsYear[] made = {late, Kings.with("nAaa;nAbb;nAcc;nAdd;nAee;nAff;nAgg;nAhh;nAii;nAjj;nAkk", "Aa1;Ab1;Ac1;Ad1;Ae1;Af1;Ag1;Ah1;Ai1;Aj1;Ak1"),
            new KingsYear(), Kings.rich(), Kings.fullTexts(), Kings.crowded(), Kings.with("mAaa;", "Aa1"), Kings.with("mAaa", "Aa1;"),
            Kings.with("mAaa", ""), Kings.with("mAaa;nBii", "Bi2"), Kings.tried("mBau;nBai;mBuu0", "Ba1;Bi2;Bu3")};
        for (int k = 0; k < made.length; k++) {
            due("32: object " + k, made[k].digest(), folded(made[k]));
        }
    }

    /** The sentence of promise 32, call by call. */
    private static long folded(KingsYear x) {
        List<Long> row = new ArrayList<>();
        for (int what = 0; what <= 7; what++) {
            row.add((long) x.count(what));
        }
        row.add((long) x.fault(0));
        row.add((long) x.fault(1));
        for (int i = 0; i < 5 * x.count(0); i++) {
            row.add((long) x.law(i / 5, i % 5));
        }
        for (int i = 0; i < 3 * x.count(1); i++) {
            row.add((long) x.want(i / 3, i % 3));
        }
        for (int year : new int[] {0, 3, 29}) {
            addYear(row, x, year);
        }
        row.add((long) x.order(3, 2, NONE));
        row.add((long) x.order(3, 2, 0));
        for (int what = 0; what <= 2; what++) {
            row.add((long) x.sets(what));
        }
        row.add((long) x.watch());
        row.add((long) x.years(7, 20, 0));
        row.add((long) x.years(7, 20, 1));
        long h = 17;
        for (long answer : row) {
            h = 31 * h + answer;
        }
        return h;
    }

    private static void addYear(List<Long> row, KingsYear x, int year) {
        for (int what = 0; what <= 2; what++) {
            row.add((long) x.binds(year, what));
        }
        row.add((long) x.joy(year, 0));
        row.add((long) x.joy(year, 1));
        row.add((long) x.quarrels(year, 0));
        row.add((long) x.quarrels(year, 1));
        row.add((long) x.keep(year, 0));
        row.add((long) x.keep(year, 1));
        for (int hour : new int[] {0, 8, 20}) {
            row.add((long) x.does(year, hour));
            row.add((long) x.exempt(year, hour, 1, 0));
            row.add((long) x.exempt(year, hour, 1, 1));
            row.add(x.gout(5, year, hour, 1, 0));
            row.add(x.gout(5, year, hour, 1, 1));
        }
    }

    private static void digestChangesNothing() {
        TWINS.asksOnly("32: digest", Kings::rich, x -> x.digest());
        TWINS.asksOnly("32: digest of a new object", KingsYear::new, x -> x.digest());
        TWINS.asksOnly("32: digest of twelve", Kings::crowded, x -> x.digest());
        TWINS.asksOnly("32: digest of full texts", Kings::fullTexts, x -> x.digest());
        KingsYear x = Kings.rich();
        long before = x.digest();
        due("32: and again", x.digest(), before);
        x.lose(3);
        x.lay(2, 2, 0, 99);
        due("32: sheets and findings are not in it", x.digest(), before);
    }

    /** An object is used for 512 calls: the last is answered as the first is. */
    private static void theLastCall() {
        long first = new KingsYear().digest();
        KingsYear x = new KingsYear();
        for (int k = 0; k < 255; k++) {
            x.type(0, 'm');
            x.undo(0);
        }
        due("32: call 511", x.digest(), first);
        due("32: call 512", x.digest(), first);
    }
}

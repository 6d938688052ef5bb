import java.util.List;

/** Promises 1 to 7 at the bounds that the document names: the last input that is well, the first that is refused. */
public final class TextBoundsTest {
    private static final int NONE = Kings.NONE, BAD = Kings.BAD, NOT = Kings.NOT, FULL = Kings.FULL;
    private static final int[][] TEXT = {{0, 1}};
    private static final Check CHECK = new Check();
    private static final Twins TWINS = new Twins(CHECK);

    public static void main(String[] args) {
        newObject();
        newObjectsAreApart();
        typeNumbers();
        typeToTheEnd();
        wipes();
        undoes();
        faultsByteByByte();
        faultsOfOneNotEnded();
        faultsOfAThirteenth();
        faultsAreTheFirst();
        faultNumbers();
        asIfEmpty();
        lawParts();
        wantParts();
        CHECK.end("TextBoundsTest", 1, 7);
    }

    private static void due(String what, long got, long want) {
        CHECK.due(what, got, want);
    }

    // ---- promise 1: "No LAWS, no WANTS; all SHEETS are LOST."

    private static void newObject() {
        for (int what = 0; what <= 8; what++) {
            due("1: count of a new object " + what, new KingsYear().count(what), 0);
        }
        KingsYear x = new KingsYear();
        due("1: no law 0", x.law(0, 0), BAD);
        due("1: no want 0", x.want(0, 0), BAD);
        due("1: no text to undo", x.undo(0) + x.undo(1), 2 * NOT);
        due("1: no trial, no breach", x.back(0) + x.back(1), 2 * NOT);
        due("1: nothing seen", x.forget(), 0);
        due("1: digest of nothing", x.digest(), digestOfNothing());
        due("1: before any finding", x.count(8), 0);
        for (int s = 0; s < 4; s++) {
            for (int form = 0; form < 3; form++) {
                TWINS.refused("1: lay on sheet " + s + " as form " + form, KingsYear::new, lay(s, form), Kings.NULL);
            }
        }
    }

    private static Twins.Act lay(int s, int form) {
        return x -> x.lay(s, form, 0, 1);
    }

    /** The row of promise 32, by hand: no text, none binds, nothing is done, one set (the empty one). */
    private static long digestOfNothing() {
        long h = 17;
        h = folded(h, 0, 0, 0, 0, 0, 0, 0, 0, NONE, NONE);
        for (int year = 0; year < 3; year++) {
            h = folded(h, 0, 0, 0, 0, NONE, 0, NONE, 0, 0);
            for (int hour = 0; hour < 3; hour++) {
                h = folded(h, NONE, NONE, NONE, 0, 1);
            }
        }
        return folded(h, BAD, BAD, 1, 0, 0, 0, BAD, BAD);
    }

    private static long folded(long start, long... row) {
        long h = start;
        for (long item : row) {
            h = 31 * h + item;
        }
        return h;
    }

    private static void newObjectsAreApart() {
        KingsYear first = Kings.rich();
        KingsYear second = new KingsYear();
        due("1: nothing of another object", second.digest(), digestOfNothing());
        due("1: nor its findings", second.count(8), 0);
        due("1: and that one stays", first.count(0) * 10 + first.count(8), 65);
    }

    // ---- promise 2: "A byte (0 to 255) comes behind a text: how many. BAD; FULL." Up to 71 and 47 bytes.

    private static void typeNumbers() {
        TWINS.ends("2: type", Kings::rich, new int[][] {{0, 1}, {0, 255}}, BAD, (x, a) -> x.type(a[0], a[1]));
        TWINS.refused("2: both wrong", Kings::rich, x -> x.type(2, 256), BAD);
        KingsYear x = new KingsYear();
        for (int b = 0; b < 71; b++) {
            due("2: a text of every byte", x.type(0, b), b + 1);
        }
        for (int b = 255; b > 208; b--) {
            due("2: of the greatest, too", x.type(1, b), 256 - b);
        }
    }

    private static void typeToTheEnd() {
        TWINS.refused("2: a byte 72 of text 0", Kings::fullTexts, x -> x.type(0, 'm'), FULL);
        TWINS.refused("2: a byte 48 of text 1", Kings::fullTexts, x -> x.type(1, 'A'), FULL);
        TWINS.refused("2: BAD comes before FULL", Kings::fullTexts, x -> x.type(0, 256), BAD);
        TWINS.refused("2: BAD comes before FULL of text 1", Kings::fullTexts, x -> x.type(1, -1), BAD);
        KingsYear full = Kings.fullTexts();
        due("2: 71 bytes", full.count(2), 71);
        due("2: 47 bytes", full.count(3), 47);
        due("2: which are twelve laws", full.count(0), 12);
        due("2: and twelve wants", full.count(1), 12);
        due("2: the last byte of laws counts", full.law(11, 4), 0);
        due("2: the last byte of wants counts", full.want(11, 2), 9);
        KingsYear x = new KingsYear();
        for (int n = 1; n <= 70; n++) {
            x.type(0, 0);
        }
        due("2: the last that is well", x.type(0, 0), 71);
        due("2: the first that is refused", x.type(0, 0), FULL);
        due("2: and again", x.type(0, 0), FULL);
        for (int n = 1; n <= 46; n++) {
            due("2: one full text is no harm to the other", x.type(1, 0), n);
        }
        due("2: the last that is well of text 1", x.type(1, 0), 47);
        due("2: the first that is refused of text 1", x.type(1, 0), FULL);
        due("2, 4: undone, there is room", x.undo(0) * 100 + x.type(0, 1), 7071);
        due("2, 3: wiped, there is room", x.wipe(1) * 100 + x.type(1, 1), 4701);
    }

    // ---- promise 3: "A text is empty: how many bytes it had. BAD."

    private static void wipes() {
        TWINS.ends("3: wipe", Kings::rich, TEXT, BAD, (x, a) -> x.wipe(a[0]));
        KingsYear x = Kings.fullTexts();
        due("3: a full text", x.wipe(0), 71);
        due("3: an empty one", x.wipe(0), 0);
        due("3: it is well", x.fault(0), NONE);
        due("3: it has no laws", x.count(0) + x.count(2), 0);
        due("3: the other stays", x.count(3) * 100 + x.count(1), 4712);
        due("3: the other full text", x.wipe(1), 47);
        due("3: the other empty one", x.wipe(1), 0);
        KingsYear faulty = Kings.with("mAaa;x", "Aa");
        due("3: one with a fault", faulty.wipe(0) * 10 + faulty.wipe(1), 62);
        due("3: no fault is left", faulty.fault(0) + faulty.fault(1), 2 * NONE);
        TWINS.asksOnly("3: wiping an empty text", () -> Kings.with("", "Aa1"), y -> y.wipe(0));
        KingsYear told = Kings.rich();
        int bound = told.binds(3, 0);
        told.wipe(0);
        due("3: no law binds", told.binds(3, 0), 0);
        due("3: trials, breaches and seen stay", told.count(4) * 100 + told.count(5) * 10 + told.count(6), 722);
        Kings.typeAll(told, 0, "mAgj;nBax;mCij;nAhh1;mDwb;nCii0");
        due("3: typed again, they bind as before", told.binds(3, 0), bound);
        nothingOfBefore();
    }

    /** Laws and wants that were wiped or undone leave nothing behind in those that come after them. */
    private static void nothingOfBefore() {
        KingsYear hours = Kings.tried("mAab;mBab", "");
        due("3: before, a quarrel", hours.quarrels(0, 0) * 10 + hours.watch(), 10);
        hours.wipe(0);
        Kings.typeAll(hours, 0, "mAbb;mBcc");
        due("3: hours of wiped laws are nothing", hours.quarrels(0, 0) * 10 + hours.watch(), 1);
        KingsYear x = Kings.tried("mAax;nBax;mCbb", "Aa9;Ab9;Bx9;Bb1");
        x.watch();
        x.wipe(0);
        x.wipe(1);
        Kings.typeAll(x, 0, "nAcc;mDdd;nEee");
        Kings.typeAll(x, 1, "Ac2;Bc1;Cb3");
        compare("3: other texts after wiped ones", x, Kings.tried("nAcc;mDdd;nEee", "Ac2;Bc1;Cb3"));
        due("3: their joy", x.joy(0, 0), 4);
        due("3: their quarrels", x.quarrels(0, 0), 0);
        due("3: their hour to watch", x.watch(), 2);
        for (int n = 0; n < 10; n++) {
            x.undo(0);
        }
        Kings.typeAll(x, 0, ";nCcc");
        compare("4: other laws after undone ones", x, withThreeTrials("nAcc;nCcc", "Ac2;Bc1;Cb3"));
    }

    private static KingsYear withThreeTrials(String laws, String wants) {
        KingsYear x = Kings.with(laws, wants);
        for (int law = 0; law < 3; law++) {
            x.trial(0, law);
        }
        return x;
    }

    // ---- promise 4: "The last byte of a text is undone: how many are left. BAD; NOT: it is empty."

    private static void undoes() {
        TWINS.ends("4: undo", Kings::rich, TEXT, BAD, (x, a) -> x.undo(a[0]));
        TWINS.refused("4: an empty text 0", () -> Kings.with("", "Aa1"), x -> x.undo(0), NOT);
        TWINS.refused("4: an empty text 1", () -> Kings.with("mAaa", ""), x -> x.undo(1), NOT);
        TWINS.refused("4: a wiped text", KingsYear::new, x -> x.wipe(0) + x.undo(0), NOT);
        KingsYear x = Kings.fullTexts();
        for (int left = 70; left >= 0; left--) {
            due("4: byte by byte", x.undo(0), left);
        }
        due("4: none is left", x.undo(0), NOT);
        due("4: the other stays", x.count(3), 47);
        for (int left = 46; left >= 0; left--) {
            due("4: byte by byte of text 1", x.undo(1), left);
        }
        due("4: none is left of text 1", x.undo(1), NOT);
        KingsYear y = Kings.with("mAbc5", "");
        due("4: with the figure", y.law(0, 4), 5);
        y.undo(0);
        due("4: without it", y.law(0, 4), NONE);
        y.type(0, ';');
        y.undo(0);
        due("4: nothing of what was undone is left", y.law(0, 4), NONE);
        due("4: it is well again", y.fault(0), NONE);
    }

    // ---- promise 5: "The FAULT of a text; NONE. BAD."

    /** After a beginning that is well: bytes with which it is ended, bytes with which it goes on; all others are faults. */
    private static void faultsByteByByte() {
        String elevenThatLean = Kings.times("nFxx9", 11);
        String twelve = Kings.times("nFxx", 12);
        String[][] laws = {{"", "", "mn"}, {"m", "", "ABCDEF"}, {"n", "", "ABCDEF"}, {"mA", "", "abcdefghijklmnopqrstuvwx"},
            {"nFx", "abcdefghijklmnopqrstuvwx", ""}, {"mAaa", "0123456789", ";"}, {"mAaa0", "", ";"}, {"mAaa9", "", ";"},
            {"mAaa;", "", "mn"}, {"mAaa0;", "", "mn"}, {"mAaa;n", "", "ABCDEF"}, {elevenThatLean + ";", "", "mn"},
            {elevenThatLean + ";nFxx", "0123456789", ";"}, {twelve, "0123456789", ";"}, {twelve + "0", "", ";"},
            {twelve + ";", "", ""}};
        for (String[] row : laws) {
            goesOn(0, row[0], row[1], row[2]);
        }
        String[][] wants = {{"", "", "ABCDEF"}, {"F", "", "abcdefghijklmnopqrstuvwx"}, {"Fx", "123456789", ""}, {"Fx9", "", ";"},
            {"Aa1;", "", "ABCDEF"}, {"Aa1;B", "", "abcdefghijklmnopqrstuvwx"}, {Kings.times("Fx9", 11) + ";Aa", "123456789", ""},
            {Kings.times("Fx9", 11), "", ";"}};
        for (String[] row : wants) {
            goesOn(1, row[0], row[1], row[2]);
        }
    }

    private static void goesOn(int text, String beginning, String ending, String going) {
        KingsYear x = text == 0 ? Kings.with(beginning, "") : Kings.with("", beginning);
        int end = beginning.length();
        for (int b = 0; b < 256; b++) {
            if (b == 128) {
                x = text == 0 ? Kings.with(beginning, "") : Kings.with("", beginning);
            }
            x.type(text, b);
            int due = end;
            if (ending.indexOf(b) >= 0) {
                due = NONE;
            } else if (going.indexOf(b) >= 0) {
                due = end + 1;
            }
            due("5: text " + text + " '" + beginning + "' and byte " + b, x.fault(text), due);
            x.undo(text);
        }
    }

    private static void faultsOfOneNotEnded() {
        due("5: an empty one is well", Kings.with("", "").fault(0), NONE);
        due("5: an empty one of wants is well", Kings.with("", "").fault(1), NONE);
        String law = "nFxx9;mAaa;nB";
        int[] laws = {1, 2, 3, NONE, NONE, 6, 7, 8, 9, NONE, 11, 12, 13};
        KingsYear x = new KingsYear();
        for (int i = 0; i < law.length(); i++) {
            x.type(0, law.charAt(i));
            due("5: of one that is not ended, its end: " + law.substring(0, i + 1), x.fault(0), laws[i]);
        }
        String want = "Fx9;Aa1;B";
        int[] wants = {1, 2, NONE, 4, 5, 6, NONE, 8, 9};
        for (int i = 0; i < want.length(); i++) {
            x.type(1, want.charAt(i));
            due("5: of wants that are not ended, the end: " + want.substring(0, i + 1), x.fault(1), wants[i]);
        }
    }

    private static void faultsOfAThirteenth() {
        String twelve = Kings.times("nFxx", 12);
        KingsYear x = Kings.with(twelve, "");
        due("5: twelve laws are well", x.fault(0), NONE);
        due("5: all twelve", x.count(0), 12);
        String more = ";mAaa0;mAaa";
        for (int i = 0; i < more.length(); i++) {
            x.type(0, more.charAt(i));
            due("5: the first byte of a thirteenth", x.fault(0), 60);
            due("5: then there are none", x.count(0), 0);
        }
        due("5: the bytes are there", x.count(2), 70);
        for (int i = 0; i < more.length(); i++) {
            x.undo(0);
        }
        due("5: twelve again", x.count(0), 12);
        KingsYear atTheEnd = Kings.with(Kings.times("nFxx9", 11) + ";nFxx;", "");
        due("5: a full text whose thirteenth has no room", atTheEnd.count(2) * 100 + atTheEnd.fault(0), 7171);
        KingsYear earlier = Kings.with(Kings.times("nFxx", 11) + ";nFx;mAaa;mAaa", "");
        due("5: a fault of the twelfth comes before it", earlier.fault(0), 58);
        KingsYear wants = Kings.with("", Kings.times("Fx9", 12));
        due("5: twelve wants are well", wants.fault(1), NONE);
        due("5: a thirteenth has no room", wants.type(1, ';'), FULL);
        due("5: they are still well", wants.fault(1) + wants.count(1), 11);
    }

    private static void faultsAreTheFirst() {
        String[] laws = {"xxxx", "mxxx", "mAyy", "mAay", "mAaaa", "mAaa00", "mAaa;;;", "mAaa;mG?", "mAaa,", "mAaa ;"};
        int[] places = {0, 1, 2, 3, 4, 5, 5, 6, 4, 4};
        for (int k = 0; k < laws.length; k++) {
            due("5: the first of " + laws[k], Kings.with(laws[k], "").fault(0), places[k]);
            due("5: whatever comes behind " + laws[k], Kings.with(laws[k] + ";mAaa", "").fault(0), places[k]);
        }
        String[] wants = {"aaaa", "AAAA", "Aaaa", "Aa0;", "Aa11", "Aa1;;", "Aa1;a"};
        int[] wantPlaces = {0, 1, 2, 2, 3, 4, 4};
        for (int k = 0; k < wants.length; k++) {
            due("5: the first of wants " + wants[k], Kings.with("", wants[k]).fault(1), wantPlaces[k]);
            due("5: whatever comes behind wants " + wants[k], Kings.with("", wants[k] + ";Aa1").fault(1), wantPlaces[k]);
        }
    }

    private static void faultNumbers() {
        TWINS.ends("5: fault", Kings::rich, TEXT, BAD, (x, a) -> x.fault(a[0]));
        TWINS.asksOnly("5: fault", Kings::rich, x -> x.fault(0));
        KingsYear x = Kings.with("mAaa", "Aa");
        due("5: of each text its own", x.fault(0) * 10 + x.fault(1), 10 * NONE + 2);
    }

    /** "With a FAULT a text is as if it was empty": beside an object whose text is. */
    private static void asIfEmpty() {
        String laws = "mAgj;nBax;mCij;nAhh1";
        String wants = "Ag5;Bi9;Ci2;Bg7";
        for (String end : new String[] {";", ";m", "x", ";mAa", "00", ";mAaa;"}) {
            compare("5: laws with a fault by " + end, told(laws + end, wants), told("", wants));
            due("5: bytes stay with " + end, told(laws + end, wants).count(2), 20 + end.length());
        }
        for (String end : new String[] {";", ";A", "x", ";Aa", ";Aa0"}) {
            compare("5: wants with a fault by " + end, told(laws, wants + end), told(laws, ""));
            due("5: bytes stay with wants " + end, told(laws, wants + end).count(3), 15 + end.length());
        }
        compare("5: both", told(laws + ";", wants + ";"), told("", ""));
        KingsYear x = told(laws + ";", wants + ";");
        due("5: no laws, no wants", x.count(0) + x.count(1), 0);
        due("6: with a fault there is no law", x.law(0, 0), BAD);
        due("7: with a fault there is no want", x.want(0, 0), BAD);
        x.undo(0);
        due("5: the fault undone, laws are there", x.count(0) * 10 + x.count(1), 40);
        x.undo(1);
        due("5: and wants", x.count(1), 4);
        compare("5: as if it had never been", x, told(laws, wants));
    }

    private static KingsYear told(String laws, String wants) {
        KingsYear x = Kings.with(laws, wants);
        for (int law = 0; law < 4; law++) {
            x.trial(law, law);
        }
        x.breach(1, 1);
        x.seen(8, 1);
        return x;
    }

    private static void compare(String what, KingsYear x, KingsYear y) {
        List<Long> got = Twins.plans(x);
        List<Long> want = Twins.plans(y);
        for (int i = 0; i < want.size(); i++) {
            due(what + ", answer " + i, got.get(i), want.get(i));
        }
    }

    // ---- promises 6, 7: the parts of a law, of a want

    private static void lawParts() {
        TWINS.ends("6: law", Kings::rich, new int[][] {{0, 5}, {0, 4}}, BAD, (x, a) -> x.law(a[0], a[1]));
        TWINS.ends("6: law of twelve", Kings::crowded, new int[][] {{0, 11}, {0, 4}}, BAD, (x, a) -> x.law(a[0], a[1]));
        TWINS.refused("6: no laws", KingsYear::new, x -> x.law(0, 0), BAD);
        TWINS.asksOnly("6: law", Kings::rich, x -> x.law(5, 4));
        due("6: m is 1", Kings.with("mAaa", "").law(0, 0), 1);
        due("6: n is 0", Kings.with("nAaa", "").law(0, 0), 0);
        for (int d = 0; d < 6; d++) {
            due("6: deed", Kings.with("m" + (char) ('A' + d) + "aa", "").law(0, 1), d);
        }
        for (int hour = 0; hour < 24; hour++) {
            char letter = (char) ('a' + hour);
            due("6: from", Kings.with("mA" + letter + "l", "").law(0, 2), hour);
            due("6: to", Kings.with("mAl" + letter, "").law(0, 3), hour);
        }
        due("6: leans on none", Kings.with("mAaa", "").law(0, 4), NONE);
        for (int figure = 0; figure < 10; figure++) {
            due("6: leans, though there is no such law", Kings.with("mAaa" + figure, "").law(0, 4), figure);
        }
        KingsYear x = Kings.with("mFxa9;nAax", "");
        due("6: one that leans is no harm to the next", x.law(1, 4), NONE);
        due("6: of each its own", x.law(1, 0) * 1000 + x.law(1, 1) * 100 + x.law(1, 2) * 10 + x.law(1, 3), 23);
    }

    private static void wantParts() {
        TWINS.ends("7: want", Kings::rich, new int[][] {{0, 5}, {0, 2}}, BAD, (x, a) -> x.want(a[0], a[1]));
        TWINS.ends("7: want of twelve", Kings::fullTexts, new int[][] {{0, 11}, {0, 2}}, BAD, (x, a) -> x.want(a[0], a[1]));
        TWINS.refused("7: no wants", KingsYear::new, x -> x.want(0, 0), BAD);
        TWINS.asksOnly("7: want", Kings::rich, x -> x.want(5, 2));
        for (int d = 0; d < 6; d++) {
            due("7: deed", Kings.with("", (char) ('A' + d) + "a1").want(0, 0), d);
        }
        for (int hour = 0; hour < 24; hour++) {
            due("7: hour", Kings.with("", "A" + (char) ('a' + hour) + "1").want(0, 1), hour);
        }
        for (int like = 1; like <= 9; like++) {
            due("7: how much", Kings.with("", "Aa" + like).want(0, 2), like);
        }
        KingsYear x = Kings.with("", "Fx9;Aa1");
        due("7: of each its own", x.want(1, 0) * 100 + x.want(1, 1) * 10 + x.want(1, 2), 1);
    }
}

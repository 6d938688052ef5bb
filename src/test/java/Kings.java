/** Objects for the tests, and the answers that the document names. */
final class Kings {
    static final int NONE = -1, BAD = -2, NOT = -3, FULL = -4;
    static final int NULL = -11, INDEX = -12, CAST = -13, STORE = -14, SIZE = -15;
    static final int FAR_DOWN = Integer.MIN_VALUE, FAR_UP = Integer.MAX_VALUE;
    static final long BAD_LONG = Long.MIN_VALUE + 2;

    private Kings() {
    }

    static KingsYear with(String laws, String wants) {
        KingsYear x = new KingsYear();
        typeAll(x, 0, laws);
        typeAll(x, 1, wants);
        return x;
    }

    static void typeAll(KingsYear x, int text, String s) {
        for (int i = 0; i < s.length(); i++) {
            x.type(text, s.charAt(i));
        }
    }

    /** With laws from 0 on all tried in year 0, so that they bind all from year 1 on. */
    static KingsYear tried(String laws, String wants) {
        KingsYear x = with(laws, wants);
        int many = x.count(0);
        for (int law = 0; law < many; law++) {
            x.trial(0, law);
        }
        return x;
    }

    static String times(String item, int many) {
        StringBuilder s = new StringBuilder(item);
        for (int k = 1; k < many; k++) {
            s.append(';').append(item);
        }
        return s.toString();
    }

    /** With something of all that there is, and the latest finding 5, so that a change of anything is seen. */
    static KingsYear rich() {
        KingsYear x = with("mAgj;nBax;mCij;nAhh1;mDwb;nCii0", "Ag5;Bi9;Ci2;Bg7;Da3;Ea3");
        int[][] trials = {{0, 0}, {1, 1}, {2, 2}, {2, 3}, {3, 4}, {4, 5}, {9, 0}};
        for (int[] t : trials) {
            x.trial(t[0], t[1]);
        }
        x.breach(1, 1);
        x.breach(5, 0);
        x.seen(8, 1);
        x.seen(0, 3);
        for (int s = 0; s < 3; s++) {
            x.sheet(s, s, 4 + s);
            x.lay(s, s, 0, 7 + s);
            x.lay(s, s, 3 + s, -1 - s);
        }
        x.sheet(3, 0, -1);
        return x;
    }

    /** Both texts full and well: so each law leans, and as they all come to a ring, none binds. */
    static KingsYear fullTexts() {
        KingsYear x = with("mAgj1;nBax2;mCij3;nAhh4;mDwb5;nCii6;mEaa7;nFbb8;mFcc9;nDdd9;mBee0;nEff0",
            times("Aa1", 6) + ";" + times("Fx9", 6));
        x.trial(0, 0);
        x.sheet(3, 0, -1);
        return x;
    }

    /** With twelve laws, all tried, some of which lapse; trials, breaches and seen are full. */
    static KingsYear crowded() {
        KingsYear x = with("mAgj;nBax;mCij1;nAhh;mDwb;nCii4;mEaa;nFbb;mFcc9;nDdd;mBee;nEff", "Ag5;Bi9;Ci2;Bg7;Da3;Ea3;Fb4;Dd5;Ef6");
        for (int k = 0; k < 12; k++) {
            x.trial(k / 2, 11 - k);
            x.breach(k / 2, Math.max(0, 11 - k - k % 2));
        }
        for (int k = 0; k < 8; k++) {
            x.seen(k / 3, k / 3 == 2 ? NONE : 3 + k / 3 * 2);
        }
        x.sheet(3, 0, -1);
        return x;
    }
}

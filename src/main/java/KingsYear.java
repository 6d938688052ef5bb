import java.util.Arrays;

/** Laws that the king lives for a year before they bind anybody else. */
public final class KingsYear {
    public static final int NONE = -1, BAD = -2, NOT = -3, FULL = -4;

    private static final int LAWS = 12;
    private static final int WANTS = 12;
    private static final int DEEDS = 6;
    private static final int CLASH = 6;
    private static final int HOURS = 24;
    private static final int YEARS = 30;
    private static final int TOLD = 12;
    private static final int SEEN = 8;
    private static final int ORDERED = 4;
    private static final int SHEETS = 4;
    private static final int FORMS = 3;
    private static final int ITEMS = 60;
    private static final int LOST = -1;
    private static final int LEAST_INT = 1 << 31;
    private static final long BAD_LONG = (1L << 63) - BAD;

    private static final int NULL = 1;
    private static final int INDEX = 2;
    private static final int CAST = 3;
    private static final int STORE = 4;
    private static final int SIZE = 5;

    private static final int[] LAW_LEAST = {'m', 'A', 'a', 'a', '0'};
    private static final int[] LAW_MOST = {'n', 'F', 'x', 'x', '9'};
    private static final int[] WANT_LEAST = {'A', 'a', '1'};
    private static final int[] WANT_MOST = {'F', 'x', '9'};

    private static final int[] DIGEST_YEARS = {0, 3, 29};
    private static final int[] DIGEST_HOURS = {0, 8, 20};

    private final Script laws = new Script(LAW_LEAST, LAW_MOST, 4, LAWS, 71);
    private final Script wants = new Script(WANT_LEAST, WANT_MOST, 3, WANTS, 47);
    private final Code code = new Code();
    private final Log trials = new Log();
    private final Log breaches = new Log();
    private final Reign told = new Reign();
    private final Reign supposed = new Reign();
    private final Keeper keeper = new Keeper();
    private final Orderer orderer = new Orderer();
    private final Inquiry inquiry = new Inquiry();
    private final Gout chance = new Gout();
    private final Sheet[] sheets = new Sheet[SHEETS];
    private boolean stale = false;
    private int finding = 0;

    public KingsYear() {
        for (int s = 0; s < SHEETS; s++) {
            sheets[s] = new Sheet();
        }
    }

    // ---- laws, wants, trials

    public int type(int text, int b) {
        if (!within(text, 2) || !within(b, 256)) {
            return BAD;
        }
        Script script = scriptOf(text);
        if (script.isFull()) {
            return FULL;
        }
        script.append(b);
        stale = true;
        return script.length;
    }

    public int wipe(int text) {
        if (!within(text, 2)) {
            return BAD;
        }
        Script script = scriptOf(text);
        int had = script.length;
        script.shorten(0);
        stale = true;
        return had;
    }

    public int undo(int text) {
        if (!within(text, 2)) {
            return BAD;
        }
        Script script = scriptOf(text);
        if (script.length == 0) {
            return NOT;
        }
        script.shorten(script.length - 1);
        stale = true;
        return script.length;
    }

    public int fault(int text) {
        if (!within(text, 2)) {
            return BAD;
        }
        refresh();
        return scriptOf(text).faultPlace;
    }

    public int law(int law, int what) {
        refresh();
        if (!within(law, code.lawCount) || !within(what, 5)) {
            return BAD;
        }
        return code.lawPart(law, what);
    }

    public int want(int want, int what) {
        refresh();
        if (!within(want, wants.size) || !within(what, 3)) {
            return BAD;
        }
        int value = wants.part(want, what);
        return what == 2 ? value + 1 : value;
    }

    public int trial(int year, int law) {
        return tell(trials, year, law);
    }

    public int breach(int year, int law) {
        return tell(breaches, year, law);
    }

    public int back(int what) {
        if (!within(what, 2)) {
            return BAD;
        }
        Log log = what == 0 ? trials : breaches;
        if (log.size == 0) {
            return NOT;
        }
        log.size--;
        told.retell(trials, breaches);
        return log.size;
    }

    // ---- years

    public int binds(int year, int what) {
        if (!within(year, YEARS) || !within(what, 3)) {
            return BAD;
        }
        refresh();
        switch (what) {
            case 0:
                return told.bindingKing(code, year);
            case 1:
                return told.bindingOthers(code, year);
            default:
                return told.lapsedBy(code, year);
        }
    }

    public int does(int year, int hour) {
        if (!within(year, YEARS) || !within(hour, HOURS)) {
            return BAD;
        }
        return code.deedBy(kingsLaws(year), hour);
    }

    public int joy(int year, int what) {
        if (!within(year, YEARS) || !within(what, 2)) {
            return BAD;
        }
        int set = kingsLaws(year);
        return what == 0 ? code.joyBy(set) : code.firstClash(set);
    }

    public int quarrels(int year, int what) {
        if (!within(year, YEARS) || !within(what, 2)) {
            return BAD;
        }
        int set = kingsLaws(year);
        return what == 0 ? code.quarrelCount(set) : code.leastQuarrel(set);
    }

    // ---- plans

    public int exempt(int year, int hour, int deed, int what) {
        if (!within(year, YEARS) || !within(hour, HOURS) || !isDeedOrNone(deed) || !within(what, 2)) {
            return BAD;
        }
        int bits = code.leastExemption(kingsLaws(year), hour, deed);
        return bits == NONE || what == 1 ? bits : Integer.bitCount(bits);
    }

    public int keep(int year, int what) {
        if (!within(year, YEARS) || !within(what, 2)) {
            return BAD;
        }
        keeper.search(code, kingsLaws(year));
        return what == 0 ? keeper.bestSet : keeper.bestJoy;
    }

    public int order(int laws, int year, int i) {
        refresh();
        int many = Integer.bitCount(laws);
        if ((laws & ~code.all()) != 0 || many < 1 || many > ORDERED) {
            return BAD;
        }
        if (!within(year, YEARS) || year + many > YEARS || i < NONE || i >= ORDERED) {
            return BAD;
        }
        if (i >= many) {
            return NONE;
        }
        supposed.retell(trials, breaches);
        orderer.search(code, supposed, breaches, laws, year);
        return i == NONE ? orderer.bestJoy : orderer.bestRow[i];
    }

    // ---- seen, gout, years by lot

    public int seen(int hour, int deed) {
        if (!within(hour, HOURS) || !isDeedOrNone(deed)) {
            return BAD;
        }
        if (inquiry.isFull()) {
            return FULL;
        }
        inquiry.append(hour, deed);
        return inquiry.size;
    }

    public int forget() {
        int had = inquiry.size;
        inquiry.clear();
        return had;
    }

    public int read(int s) {
        if (!within(s, SHEETS)) {
            return BAD;
        }
        Sheet sheet = sheets[s];
        if (sheet.isLost()) {
            return find(NULL);
        }
        int many = 0;
        for (int i = 0; i + 1 < sheet.size; i += 2) {
            if (seen(sheet.items[i], sheet.items[i + 1]) < 0) {
                break;
            }
            many++;
        }
        return many;
    }

    public int sets(int what) {
        if (!within(what, 3)) {
            return BAD;
        }
        refresh();
        inquiry.sift(code);
        switch (what) {
            case 0:
                return inquiry.fits;
            case 1:
                return inquiry.leastFitting();
            default:
                return inquiry.common;
        }
    }

    public int watch() {
        refresh();
        inquiry.sift(code);
        return inquiry.hourToWatch(code);
    }

    public long gout(int c, int year, int hour, int deed, int what) {
        if (!within(c, 17) || !within(year, YEARS) || !within(hour, HOURS)) {
            return BAD_LONG;
        }
        if (!isDeedOrNone(deed) && deed != CLASH || !within(what, 2)) {
            return BAD_LONG;
        }
        chance.reckon(code, kingsLaws(year), hour, c, deed);
        return what == 0 ? chance.above : chance.below;
    }

    public int years(int seed, int n, int what) {
        refresh();
        if (code.lawCount == 0 || n < 1 || n > YEARS || !within(what, 2)) {
            return BAD;
        }
        supposed.draw(seed, n, code.lawCount);
        if (what == 0) {
            return Integer.bitCount(supposed.bindingOthers(code, YEARS - 1));
        }
        return code.joyBy(supposed.bindingKing(code, YEARS - 1));
    }

    // ---- sheets

    public int sheet(int s, int form, int n) {
        if (!within(s, SHEETS) || !within(form, FORMS) || n > ITEMS) {
            return BAD;
        }
        if (n < 0) {
            return find(SIZE);
        }
        sheets[s].renew(form, n);
        return n;
    }

    public int lose(int s) {
        if (!within(s, SHEETS)) {
            return BAD;
        }
        Sheet sheet = sheets[s];
        if (sheet.isLost()) {
            return find(NULL);
        }
        int had = sheet.size;
        sheet.size = LOST;
        return had;
    }

    public int lay(int s, int form, int i, int v) {
        int refusal = refusalOfItem(s, form, i);
        if (refusal != 0) {
            return refusal;
        }
        sheets[s].put(i, v);
        return 1;
    }

    public int get(int s, int form, int i) {
        return refusalOfItem(s, form, i) != 0 ? LEAST_INT : sheets[s].items[i];
    }

    public int copy(int s, int i, int t, int j, int n) {
        if (!within(s, SHEETS) || !within(t, SHEETS)) {
            return BAD;
        }
        Sheet from = sheets[s];
        Sheet to = sheets[t];
        if (from.isLost() || to.isLost()) {
            return find(NULL);
        }
        if (from.form != to.form) {
            return find(STORE);
        }
        if (!from.hasRun(i, n) || !to.hasRun(j, n)) {
            return find(INDEX);
        }
        System.arraycopy(from.items, i, to.items, j, n);
        return 1;
    }

    public int write(int year, int s) {
        if (!within(year, YEARS) || !within(s, SHEETS)) {
            return BAD;
        }
        Sheet sheet = sheets[s];
        if (sheet.isLost()) {
            return find(NULL);
        }
        int set = kingsLaws(year);
        int many = Math.min(sheet.size, HOURS);
        for (int hour = 0; hour < many; hour++) {
            sheet.put(hour, code.deedBy(set, hour));
        }
        return many;
    }

    public int count(int what) {
        refresh();
        switch (what) {
            case 0:
                return code.lawCount;
            case 1:
                return wants.size;
            case 2:
                return laws.length;
            case 3:
                return wants.length;
            case 4:
                return trials.size;
            case 5:
                return breaches.size;
            case 6:
                return inquiry.size;
            case 7:
                return Integer.bitCount(told.bindingOthers(code, YEARS - 1));
            case 8:
                return finding;
            default:
                return BAD;
        }
    }

    public long digest() {
        long h = 17;
        for (int what = 0; what < 8; what++) {
            h = 31 * h + count(what);
        }
        h = withTexts(h);
        for (int year : DIGEST_YEARS) {
            h = withYear(h, year);
        }
        h = 31 * h + order(3, 2, NONE);
        h = 31 * h + order(3, 2, 0);
        for (int what = 0; what < 3; what++) {
            h = 31 * h + sets(what);
        }
        h = 31 * h + watch();
        h = 31 * h + years(7, 20, 0);
        return 31 * h + years(7, 20, 1);
    }

    private long withTexts(long before) {
        long h = 31 * before + fault(0);
        h = 31 * h + fault(1);
        for (int i = 0; i < code.lawCount; i++) {
            for (int what = 0; what < 5; what++) {
                h = 31 * h + law(i, what);
            }
        }
        for (int i = 0; i < wants.size; i++) {
            for (int what = 0; what < 3; what++) {
                h = 31 * h + want(i, what);
            }
        }
        return h;
    }

    private long withYear(long before, int year) {
        long h = before;
        for (int what = 0; what < 3; what++) {
            h = 31 * h + binds(year, what);
        }
        h = 31 * h + joy(year, 0);
        h = 31 * h + joy(year, 1);
        h = 31 * h + quarrels(year, 0);
        h = 31 * h + quarrels(year, 1);
        h = 31 * h + keep(year, 0);
        h = 31 * h + keep(year, 1);
        for (int hour : DIGEST_HOURS) {
            h = 31 * h + does(year, hour);
            h = 31 * h + exempt(year, hour, 1, 0);
            h = 31 * h + exempt(year, hour, 1, 1);
            h = 31 * h + gout(5, year, hour, 1, 0);
            h = 31 * h + gout(5, year, hour, 1, 1);
        }
        return h;
    }

    private static boolean within(int number, int end) {
        return number >= 0 && number < end;
    }

    private static boolean isDeedOrNone(int deed) {
        return deed == NONE || within(deed, DEEDS);
    }

    private Script scriptOf(int text) {
        return text == 0 ? laws : wants;
    }

    /** Texts are read only when somebody asks, since they come byte by byte. */
    private void refresh() {
        if (stale) {
            laws.parse();
            wants.parse();
            code.layOut(laws, wants);
            inquiry.stale = true;
            stale = false;
        }
    }

    private int kingsLaws(int year) {
        refresh();
        return told.bindingKing(code, year);
    }

    private int tell(Log log, int year, int law) {
        if (!within(year, YEARS) || !within(law, LAWS)) {
            return BAD;
        }
        if (log.isFull()) {
            return FULL;
        }
        log.append(year, law);
        told.retell(trials, breaches);
        return log.size;
    }

    private int find(int number) {
        finding = number;
        return -10 - number;
    }

    /** The refusal of an item that is treated as of a form; 0 if it may be. */
    private int refusalOfItem(int s, int form, int i) {
        if (!within(s, SHEETS) || !within(form, FORMS)) {
            return BAD;
        }
        Sheet sheet = sheets[s];
        if (sheet.isLost()) {
            return find(NULL);
        }
        if (sheet.form != form) {
            return find(CAST);
        }
        return within(i, sheet.size) ? 0 : find(INDEX);
    }

    /** A text of items of one shape with ; between them: at each place of an item a byte of a range. */
    private static final class Script {
        private final int[] least;
        private final int[] most;
        private final int needed;
        private final int room;
        private final int[] bytes;
        private final int[] parts;
        int length = 0;
        int size = 0;
        int faultPlace = NONE;

        /** Places from needed on may be left out. */
        Script(int[] least, int[] most, int needed, int room, int capacity) {
            this.least = least;
            this.most = most;
            this.needed = needed;
            this.room = room;
            this.bytes = new int[capacity];
            this.parts = new int[room * least.length];
        }

        boolean isFull() {
            return length >= bytes.length;
        }

        void append(int b) {
            if (length < bytes.length) {
                bytes[length] = b;
                length++;
            }
        }

        void shorten(int to) {
            length = to;
        }

        /** What stands at a place of an item, counted from the least byte there; NONE if it is left out. */
        int part(int item, int place) {
            return parts[item * least.length + place];
        }

        void parse() {
            size = 0;
            faultPlace = NONE;
            if (length == 0) {
                return;
            }
            Arrays.fill(parts, NONE);
            int item = 0;
            int place = 0;
            for (int at = 0; at < length; at++) {
                int b = bytes[at];
                if (place >= needed && b == ';') {
                    item++;
                    place = 0;
                } else if (item < room && place < least.length && b >= least[place] && b <= most[place]) {
                    parts[item * least.length + place] = b - least[place];
                    place++;
                } else {
                    faultPlace = at;
                    return;
                }
            }
            if (place < needed) {
                faultPlace = length;
            } else {
                size = item + 1;
            }
        }
    }

    /** Laws and wants, laid out by hours; sets of laws are bits. */
    private static final class Code {
        // No set has this bit, so a law that needs it never binds.
        private static final int NEVER = 1 << LAWS;

        int lawCount = 0;
        private final int[] must = new int[LAWS];
        private final int[] deed = new int[LAWS];
        private final int[] from = new int[LAWS];
        private final int[] to = new int[LAWS];
        private final int[] lean = new int[LAWS];
        private final int[] hoursOf = new int[LAWS];
        private final int[] needs = new int[LAWS];
        private final int[] rivals = new int[LAWS];
        private final int[] orders = new int[HOURS * DEEDS];
        private final int[] bans = new int[HOURS * DEEDS];
        private final int[] likes = new int[HOURS * DEEDS];
        private final int[] covers = new int[HOURS];
        private final boolean[] wanted = new boolean[HOURS];

        void layOut(Script laws, Script wants) {
            lawCount = laws.size;
            Arrays.fill(orders, 0);
            Arrays.fill(bans, 0);
            Arrays.fill(likes, 0);
            Arrays.fill(covers, 0);
            for (int hour = 0; hour < HOURS; hour++) {
                wanted[hour] = false;
            }
            for (int i = 0; i < wants.size; i++) {
                int hour = wants.part(i, 1);
                likes[hour * DEEDS + wants.part(i, 0)] += wants.part(i, 2) + 1;
                wanted[hour] = true;
            }
            for (int i = 0; i < lawCount; i++) {
                must[i] = 1 - laws.part(i, 0);
                deed[i] = laws.part(i, 1);
                from[i] = laws.part(i, 2);
                to[i] = laws.part(i, 3);
                lean[i] = laws.part(i, 4);
                layLaw(i);
            }
            for (int i = 0; i < lawCount; i++) {
                needs[i] = chainOf(i);
                rivals[i] = rivalsOf(i);
            }
        }

        private void layLaw(int law) {
            int[] rows = must[law] == 1 ? orders : bans;
            int bit = 1 << law;
            int hour = from[law];
            hoursOf[law] = 0;
            for (int k = 0; k < HOURS; k++) {
                hoursOf[law] |= 1 << hour;
                covers[hour] |= bit;
                rows[hour * DEEDS + deed[law]] |= bit;
                if (hour == to[law]) {
                    break;
                }
                hour = hour == HOURS - 1 ? 0 : hour + 1;
            }
        }

        /** A law and all that it leans on, near and far; NEVER in it, if they come to no end. */
        private int chainOf(int law) {
            int chain = 0;
            int at = law;
            for (int k = 0; k < LAWS; k++) {
                chain |= 1 << at;
                if (lean[at] == NONE) {
                    return chain;
                }
                at = lean[at];
                if (at >= lawCount) {
                    return NEVER;
                }
            }
            return NEVER;
        }

        /** A clash takes two laws at most, so it is enough to know which pairs clash. */
        private int rivalsOf(int law) {
            int bits = 0;
            for (int other = 0; other < lawCount; other++) {
                boolean meet = (hoursOf[law] & hoursOf[other]) != 0;
                boolean alike = deed[law] == deed[other];
                int musts = must[law] + must[other];
                if (meet && (musts == 2 && !alike || musts == 1 && alike)) {
                    bits |= 1 << other;
                }
            }
            return bits;
        }

        int lawPart(int law, int what) {
            switch (what) {
                case 0:
                    return must[law];
                case 1:
                    return deed[law];
                case 2:
                    return from[law];
                case 3:
                    return to[law];
                default:
                    return lean[law];
            }
        }

        int all() {
            return (1 << lawCount) - 1;
        }

        /** Of laws that would bind those that do, with what they lean on. */
        int standing(int laws) {
            int bits = 0;
            for (int i = 0; i < lawCount; i++) {
                if ((needs[i] & ~laws) == 0) {
                    bits |= 1 << i;
                }
            }
            return bits;
        }

        int deedBy(int set, int hour) {
            int ordered = NONE;
            int liked = NONE;
            int most = 0;
            int row = hour * DEEDS;
            for (int at = row; at < row + DEEDS; at++) {
                boolean banned = (set & bans[at]) != 0;
                if ((set & orders[at]) != 0) {
                    if (banned || ordered != NONE) {
                        return CLASH;
                    }
                    ordered = at - row;
                } else if (likes[at] > most && !banned) {
                    liked = at - row;
                    most = likes[at];
                }
            }
            return ordered == NONE ? liked : ordered;
        }

        int joyBy(int set) {
            int joy = 0;
            for (int hour = 0; hour < HOURS; hour++) {
                if (wanted[hour]) {
                    int done = deedBy(set, hour);
                    if (done != NONE && done != CLASH) {
                        joy += likes[hour * DEEDS + done];
                    }
                }
            }
            return joy;
        }

        int firstClash(int set) {
            for (int hour = 0; hour < HOURS; hour++) {
                if (deedBy(set, hour) == CLASH) {
                    return hour;
                }
            }
            return NONE;
        }

        int rivalsWithin(int law, int set) {
            return rivals[law] & set;
        }

        int quarrelCount(int set) {
            int many = 0;
            for (int i = 0; i < lawCount; i++) {
                if ((set >> i & 1) == 1) {
                    many += Integer.bitCount(rivalsWithin(i, set));
                }
            }
            return many / 2;
        }

        int leastQuarrel(int set) {
            for (int i = 0; i < lawCount; i++) {
                for (int j = i + 1; j < lawCount; j++) {
                    if ((set >> i & 1) == 1 && (rivalsWithin(i, set) >> j & 1) == 1) {
                        return 12 * i + j;
                    }
                }
            }
            return NONE;
        }

        /** Laws of a set with any one of which he cannot do the deed (NONE: nothing) in the hour. */
        int hindrances(int set, int hour, int wish) {
            int bits = 0;
            int row = hour * DEEDS;
            for (int d = 0; d < DEEDS; d++) {
                bits |= d == wish ? bans[row + d] : orders[row + d];
            }
            return bits & set;
        }

        /**
         * All hindrances must go; that all other laws stay is no harm, since an order to do the deed
         * helps, and so does a ban on what he would like better. So no other exemption is as small.
         */
        int leastExemption(int set, int hour, int wish) {
            int bits = hindrances(set, hour, wish);
            return deedBy(set & ~bits, hour) == wish ? bits : NONE;
        }

        int coveringLaws(int hour) {
            return covers[hour];
        }

        int ordersOf(int hour, int d) {
            return orders[hour * DEEDS + d];
        }

        int bansOf(int hour, int d) {
            return bans[hour * DEEDS + d];
        }

        /** Whether he wants to do d, and sooner than the other (NONE: nothing). */
        boolean prefers(int hour, int d, int other) {
            int like = likes[hour * DEEDS + d];
            if (other == NONE) {
                return like > 0;
            }
            int otherLike = likes[hour * DEEDS + other];
            return like > otherLike || like > 0 && like == otherLike && d < other;
        }

        /** Whether all goes on in an hour as in the one before it. */
        boolean isLikeBefore(int hour) {
            if (hour == 0 || covers[hour] != covers[hour - 1]) {
                return false;
            }
            for (int d = 0; d < DEEDS; d++) {
                if (likes[hour * DEEDS + d] != likes[(hour - 1) * DEEDS + d]) {
                    return false;
                }
            }
            return true;
        }
    }

    /** Years and laws, in the order in which they were told. */
    private static final class Log {
        final int[] years = new int[TOLD];
        final int[] laws = new int[TOLD];
        int size = 0;

        boolean isFull() {
            return size >= TOLD;
        }

        void append(int year, int law) {
            if (size < TOLD) {
                years[size] = year;
                laws[size] = law;
                size++;
            }
        }

        boolean has(int year, int law) {
            for (int i = 0; i < size; i++) {
                if (years[i] == year && laws[i] == law) {
                    return true;
                }
            }
            return false;
        }
    }

    /** In which year each law is tried, and which lapse. */
    private static final class Reign {
        private static final int FACTOR = 1103515245;
        private static final int STEP = 12345;

        private final int[] triedIn = new int[LAWS];
        private int lapsed = 0;
        private int seed = 0;

        Reign() {
            Arrays.fill(triedIn, NONE);
        }

        private void begin() {
            Arrays.fill(triedIn, NONE);
            lapsed = 0;
        }

        void retell(Log trials, Log breaches) {
            begin();
            for (int i = 0; i < trials.size; i++) {
                int law = trials.laws[i];
                if (triedIn[law] == NONE) {
                    put(law, trials.years[i], breaches.has(trials.years[i], law));
                }
            }
        }

        void draw(int start, int years, int lawCount) {
            begin();
            seed = start;
            for (int year = 0; year < years; year++) {
                int law = lot(lawCount);
                boolean lapses = lot(4) == 0;
                if (triedIn[law] == NONE) {
                    put(law, year, lapses);
                }
            }
        }

        private int lot(int many) {
            seed = FACTOR * seed + STEP;
            return many > 0 ? (seed >>> 16) % many : 0;
        }

        void put(int law, int year, boolean lapses) {
            triedIn[law] = year;
            if (lapses) {
                lapsed |= 1 << law;
            }
        }

        void drop(int law) {
            triedIn[law] = NONE;
            lapsed &= ~(1 << law);
        }

        int bindingKing(Code code, int year) {
            return code.standing(lasting(year) | triedBetween(year, year));
        }

        int bindingOthers(Code code, int year) {
            return code.standing(lasting(year));
        }

        int lapsedBy(Code code, int year) {
            return lapsed & triedBetween(0, year) & code.all();
        }

        private int lasting(int year) {
            return triedBetween(0, year - 1) & ~lapsed;
        }

        private int triedBetween(int first, int last) {
            int bits = 0;
            for (int law = 0; law < LAWS; law++) {
                if (triedIn[law] >= first && triedIn[law] <= last) {
                    bits |= 1 << law;
                }
            }
            return bits;
        }
    }

    /** Looks for the most laws of a set that can be kept together. */
    private static final class Keeper {
        int bestSet = 0;
        int bestJoy = 0;
        private int bestSize = 0;

        void search(Code code, int set) {
            bestSet = 0;
            bestJoy = 0;
            bestSize = NONE;
            choose(code, set, 0, 0);
        }

        /** A law is taken before it is left, so that a great set is found soon and small ones are cut off. */
        private void choose(Code code, int left, int chosen, int law) {
            if (Integer.bitCount(chosen) + Integer.bitCount(left) < bestSize) {
                return;
            }
            if (law >= LAWS || left == 0) {
                weigh(chosen, code.joyBy(chosen));
                return;
            }
            int bit = 1 << law;
            int rest = left & ~bit;
            if (rest != left) {
                int rivals = code.rivalsWithin(law, left);
                choose(code, rest & ~rivals, chosen | bit, law + 1);
                if (rivals == 0) {
                    return;
                }
            }
            choose(code, rest, chosen, law + 1);
        }

        private void weigh(int chosen, int joy) {
            int size = Integer.bitCount(chosen);
            boolean better = size > bestSize;
            if (size == bestSize) {
                better = joy > bestJoy || joy == bestJoy && chosen < bestSet;
            }
            if (better) {
                bestSet = chosen;
                bestJoy = joy;
                bestSize = size;
            }
        }
    }

    /** Looks for the best order in which laws are tried, one a year. */
    private static final class Orderer {
        int bestJoy = 0;
        final int[] bestRow = new int[ORDERED];
        private final int[] row = new int[ORDERED];

        /** The reign is left without the told laws. */
        void search(Code code, Reign reign, Log breaches, int laws, int year) {
            bestJoy = NONE;
            for (int law = 0; law < LAWS; law++) {
                if ((laws >> law & 1) == 1) {
                    reign.drop(law);
                }
            }
            tryNext(code, reign, breaches, laws, year, 0, 0);
        }

        /** Rows come from the least on, so of like ones the first stays. */
        private void tryNext(Code code, Reign reign, Log breaches, int left, int year, int depth, int joy) {
            if (left == 0 || depth >= ORDERED) {
                if (joy > bestJoy) {
                    bestJoy = joy;
                    System.arraycopy(row, 0, bestRow, 0, ORDERED);
                }
                return;
            }
            for (int law = 0; law < LAWS; law++) {
                if ((left >> law & 1) == 1) {
                    row[depth] = law;
                    reign.put(law, year, breaches.has(year, law));
                    int more = code.joyBy(reign.bindingKing(code, year));
                    tryNext(code, reign, breaches, left & ~(1 << law), year + 1, depth + 1, joy + more);
                    reign.drop(law);
                }
            }
        }
    }

    /** What was seen, and the sets of laws by which it comes out so. */
    private static final class Inquiry {
        private final int[] hours = new int[SEEN];
        private final int[] deeds = new int[SEEN];
        int size = 0;
        boolean stale = true;
        private final int[] fitting = new int[1 << LAWS];
        int fits = 0;
        int common = 0;
        private final int[] tally = new int[1 << LAWS];
        private final int[] alike = new int[DEEDS + 2];
        private int watched = NONE;

        boolean isFull() {
            return size >= SEEN;
        }

        void append(int hour, int deed) {
            if (size < SEEN) {
                hours[size] = hour;
                deeds[size] = deed;
                size++;
                stale = true;
            }
        }

        void clear() {
            size = 0;
            stale = true;
        }

        int leastFitting() {
            return fits == 0 ? NONE : fitting[0];
        }

        void sift(Code code) {
            if (!stale) {
                return;
            }
            stale = false;
            watched = NONE;
            fits = 0;
            int all = code.all();
            common = all;
            int hindering = 0;
            for (int k = 0; k < size; k++) {
                hindering |= code.hindrances(all, hours[k], deeds[k]);
            }
            for (int set = 0; set <= all; set++) {
                if ((set & hindering) == 0 && comesOut(code, set)) {
                    fitting[fits] = set;
                    fits++;
                    common &= set;
                }
            }
            if (fits == 0) {
                common = 0;
            }
        }

        private boolean comesOut(Code code, int set) {
            for (int k = 0; k < size; k++) {
                if (code.deedBy(set, hours[k]) != deeds[k]) {
                    return false;
                }
            }
            return true;
        }

        int hourToWatch(Code code) {
            if (watched != NONE) {
                return watched;
            }
            int least = 0;
            for (int hour = 0; hour < HOURS; hour++) {
                if (!code.isLikeBefore(hour)) {
                    int most = mostAlike(code, hour);
                    if (watched == NONE || most < least) {
                        watched = hour;
                        least = most;
                    }
                }
            }
            return watched;
        }

        /** Sets that are alike in the laws of the hour are counted first, as he does the same by them. */
        private int mostAlike(Code code, int hour) {
            int cover = code.coveringLaws(hour);
            for (int i = 0; i < fits; i++) {
                tally[fitting[i] & cover]++;
            }
            Arrays.fill(alike, 0);
            int most = 0;
            int part = 0;
            int parts = 1 << Integer.bitCount(cover);
            for (int k = 0; k < parts; k++) {
                if (tally[part] != 0) {
                    int outcome = code.deedBy(part, hour) + 1;
                    alike[outcome] += tally[part];
                    most = Math.max(most, alike[outcome]);
                    tally[part] = 0;
                }
                part = part - cover & cover;
            }
            return most;
        }
    }

    /** The chance of what he does in an hour, if he forgets each law by c sixteenths, as a fraction. */
    private static final class Gout {
        long above = 0;
        long below = 1;
        private final int[] orders = new int[DEEDS];
        private final int[] bans = new int[DEEDS];
        // Ways, of 16 for each law, for so many laws: all there are; those in which he forgets all.
        // With 12 laws they are 2 to the 48th at most.
        private final long[] any = new long[LAWS + 1];
        private final long[] none = new long[LAWS + 1];

        /** Laws that do not cover the hour are left out: they change nothing of the chance. */
        void reckon(Code code, int set, int hour, int c, int outcome) {
            layPowers(c);
            int laws = 0;
            for (int d = 0; d < DEEDS; d++) {
                orders[d] = Integer.bitCount(set & code.ordersOf(hour, d));
                bans[d] = Integer.bitCount(set & code.bansOf(hour, d));
                laws += orders[d] + bans[d];
            }
            below = any[Math.min(laws, LAWS)];
            if (outcome == CLASH) {
                above = below;
                for (int d = NONE; d < DEEDS; d++) {
                    above -= waysTo(code, hour, d);
                }
            } else {
                above = waysTo(code, hour, outcome);
            }
            lower();
        }

        private void layPowers(int c) {
            any[0] = 1;
            none[0] = 1;
            for (int k = 1; k <= LAWS; k++) {
                any[k] = 16 * any[k - 1];
                none[k] = c * none[k - 1];
            }
        }

        private long waysTo(Code code, int hour, int wish) {
            if (wish == NONE) {
                return waysLiked(code, hour, NONE);
            }
            long liked = code.prefers(hour, wish, NONE) ? waysLiked(code, hour, wish) : 0;
            return waysOrdered(wish) + liked;
        }

        private long waysOrdered(int wish) {
            long ways = some(orders[wish]) * none[bans[wish]];
            for (int d = 0; d < DEEDS; d++) {
                if (d != wish) {
                    ways *= none[orders[d]] * any[bans[d]];
                }
            }
            return ways;
        }

        private long waysLiked(Code code, int hour, int wish) {
            long ways = 1;
            for (int d = 0; d < DEEDS; d++) {
                ways *= none[orders[d]];
                if (d == wish) {
                    ways *= none[bans[d]];
                } else if (code.prefers(hour, d, wish)) {
                    ways *= some(bans[d]);
                } else {
                    ways *= any[bans[d]];
                }
            }
            return ways;
        }

        private long some(int laws) {
            return any[laws] - none[laws];
        }

        /** What is below is a power of two, so halving both is enough; 0 comes to 0 by 1, too. */
        private void lower() {
            for (int k = 0; k < 4 * LAWS; k++) {
                if ((above & 1) == 1 || (below & 1) == 1) {
                    return;
                }
                above /= 2;
                below /= 2;
            }
        }
    }

    /** A row of items of a form, or lost; the items are held as ints that fit the form. */
    private static final class Sheet {
        final int[] items = new int[ITEMS];
        int form = 0;
        int size = LOST;

        boolean isLost() {
            return size == LOST;
        }

        void renew(int newForm, int newSize) {
            form = newForm;
            size = newSize;
            Arrays.fill(items, 0);
        }

        void put(int i, int v) {
            if (i < 0 || i >= size) {
                return;
            }
            switch (form) {
                case 0:
                    items[i] = (byte) v;
                    break;
                case 1:
                    items[i] = (short) v;
                    break;
                default:
                    items[i] = v;
                    break;
            }
        }

        boolean hasRun(int first, int many) {
            return first >= 0 && many >= 0 && many <= size && first <= size - many;
        }
    }
}

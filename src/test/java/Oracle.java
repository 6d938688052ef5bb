import java.math.BigInteger;
import java.util.ArrayList;
import java.util.Arrays;
import java.util.List;
import java.util.regex.Pattern;

/** The document in its plainest form: every set, row and chance is tried one by one. */
final class Oracle {
    private static final int NONE = -1, BAD = -2, NOT = -3, FULL = -4;
    private static final Pattern LAW = Pattern.compile("[mn][A-F][a-x][a-x][0-9]?");
    private static final Pattern WANT = Pattern.compile("[A-F][a-x][1-9]");
    // Every beginning of one of each: what can go on, or is ended.
    private static final Pattern LAW_PART = Pattern.compile("([mn]([A-F]([a-x]([a-x][0-9]?)?)?)?)?");
    private static final Pattern WANT_PART = Pattern.compile("([A-F]([a-x][1-9]?)?)?");

    private final StringBuilder[] texts = {new StringBuilder(), new StringBuilder()};
    private final List<int[]> trials = new ArrayList<>();
    private final List<int[]> breaches = new ArrayList<>();
    private final List<int[]> seen = new ArrayList<>();
    private final Object[] sheets = new Object[4];
    private int finding = 0;
    // Kept only so that the tests end soon; forgotten with every change of a text.
    private List<List<String>> known = null;
    private byte[][] outcomes = null;

    private void changed() {
        known = null;
        outcomes = null;
    }

    // ---- texts

    int type(int text, int b) {
        if (text < 0 || text > 1 || b < 0 || b > 255) {
            return BAD;
        }
        if (texts[text].length() == (text == 0 ? 71 : 47)) {
            return FULL;
        }
        changed();
        return texts[text].append((char) b).length();
    }

    int wipe(int text) {
        if (text < 0 || text > 1) {
            return BAD;
        }
        changed();
        int had = texts[text].length();
        texts[text].setLength(0);
        return had;
    }

    int undo(int text) {
        if (text < 0 || text > 1) {
            return BAD;
        }
        if (texts[text].length() == 0) {
            return NOT;
        }
        changed();
        texts[text].setLength(texts[text].length() - 1);
        return texts[text].length();
    }

    int fault(int text) {
        if (text < 0 || text > 1) {
            return BAD;
        }
        String whole = texts[text].toString();
        if (whole.isEmpty() || isWell(text, whole)) {
            return NONE;
        }
        for (int end = 1; end <= whole.length(); end++) {
            if (!canGoOn(text, whole.substring(0, end))) {
                return end - 1;
            }
        }
        return whole.length();
    }

    private static boolean isWell(int text, String s) {
        String[] items = s.split(";", -1);
        for (String item : items) {
            if (!(text == 0 ? LAW : WANT).matcher(item).matches()) {
                return false;
            }
        }
        return items.length <= 12;
    }

    private static boolean canGoOn(int text, String s) {
        int cut = s.lastIndexOf(';');
        String last = s.substring(cut + 1);
        if (!(text == 0 ? LAW_PART : WANT_PART).matcher(last).matches()) {
            return false;
        }
        if (cut < 0) {
            return true;
        }
        String before = s.substring(0, cut);
        boolean thirteenth = before.split(";", -1).length >= 12 && !last.isEmpty();
        return isWell(text, before) && !thirteenth;
    }

    private List<String> items(int text) {
        if (known == null) {
            known = List.of(itemsTold(0), itemsTold(1));
        }
        return known.get(text);
    }

    private List<String> itemsTold(int text) {
        String whole = texts[text].toString();
        return whole.isEmpty() || fault(text) != NONE ? List.of() : Arrays.asList(whole.split(";", -1));
    }

    int law(int law, int what) {
        List<String> laws = items(0);
        if (law < 0 || law >= laws.size() || what < 0 || what > 4) {
            return BAD;
        }
        String s = laws.get(law);
        switch (what) {
            case 0: return s.charAt(0) == 'm' ? 1 : 0;
            case 1: return s.charAt(1) - 'A';
            case 2: return s.charAt(2) - 'a';
            case 3: return s.charAt(3) - 'a';
            default: return s.length() == 5 ? s.charAt(4) - '0' : NONE;
        }
    }

    int want(int want, int what) {
        List<String> wants = items(1);
        if (want < 0 || want >= wants.size() || what < 0 || what > 2) {
            return BAD;
        }
        return wants.get(want).charAt(what) - "Aa0".charAt(what);
    }

    // ---- trials, breaches, what binds

    int trial(int year, int law) {
        return tell(trials, year, law);
    }

    int breach(int year, int law) {
        return tell(breaches, year, law);
    }

    private static int tell(List<int[]> rows, int year, int law) {
        if (year < 0 || year > 29 || law < 0 || law > 11) {
            return BAD;
        }
        if (rows.size() == 12) {
            return FULL;
        }
        rows.add(new int[] {year, law});
        return rows.size();
    }

    int back(int what) {
        if (what < 0 || what > 1) {
            return BAD;
        }
        List<int[]> rows = what == 0 ? trials : breaches;
        if (rows.isEmpty()) {
            return NOT;
        }
        rows.remove(rows.size() - 1);
        return rows.size();
    }

    private static int trialYear(List<int[]> tries, int law) {
        for (int[] t : tries) {
            if (t[1] == law) {
                return t[0];
            }
        }
        return NONE;
    }

    private static boolean lapses(List<int[]> tries, List<int[]> broken, int law) {
        for (int[] b : broken) {
            if (b[1] == law && b[0] == trialYear(tries, law)) {
                return true;
            }
        }
        return false;
    }

    private boolean binds(List<int[]> tries, List<int[]> broken, int year, int law, boolean king, int depth) {
        int tried = trialYear(tries, law);
        if (law >= items(0).size() || tried == NONE || depth > 12) {
            return false;
        }
        boolean later = year > tried && !lapses(tries, broken, law);
        if (!later && !(king && year == tried)) {
            return false;
        }
        int lean = law(law, 4);
        return lean == NONE || binds(tries, broken, year, lean, king, depth + 1);
    }

    private int binding(List<int[]> tries, List<int[]> broken, int year, boolean king) {
        int bits = 0;
        for (int law = 0; law < items(0).size(); law++) {
            bits |= binds(tries, broken, year, law, king, 0) ? 1 << law : 0;
        }
        return bits;
    }

    int binds(int year, int what) {
        if (year < 0 || year > 29 || what < 0 || what > 2) {
            return BAD;
        }
        if (what < 2) {
            return binding(trials, breaches, year, what == 0);
        }
        int bits = 0;
        for (int law = 0; law < items(0).size(); law++) {
            bits |= lapses(trials, breaches, law) && trialYear(trials, law) <= year ? 1 << law : 0;
        }
        return bits;
    }

    // ---- years

    private boolean covers(int law, int hour) {
        int from = law(law, 2);
        int to = law(law, 3);
        return from <= to ? hour >= from && hour <= to : hour >= from || hour <= to;
    }

    private int like(int hour, int deed) {
        int sum = 0;
        for (int i = 0; i < items(1).size(); i++) {
            sum += want(i, 0) == deed && want(i, 1) == hour ? want(i, 2) : 0;
        }
        return sum;
    }

    private int by(int set, int hour) {
        if (outcomes == null) {
            outcomes = new byte[24][4096];
        }
        if (outcomes[hour][set] == 0) {
            outcomes[hour][set] = (byte) (2 + outcome(set, hour));
        }
        return outcomes[hour][set] - 2;
    }

    private int outcome(int set, int hour) {
        boolean[] forbidden = new boolean[6];
        boolean[] ordered = new boolean[6];
        int orders = 0;
        int order = NONE;
        for (int law = 0; law < items(0).size(); law++) {
            if ((set & 1 << law) != 0 && covers(law, hour)) {
                (law(law, 0) == 1 ? ordered : forbidden)[law(law, 1)] = true;
            }
        }
        for (int d = 0; d < 6; d++) {
            if (ordered[d]) {
                orders++;
                order = d;
            }
        }
        if (orders > 1 || orders == 1 && forbidden[order]) {
            return 6;
        }
        int best = order;
        if (orders == 0) {
            for (int d = 5; d >= 0; d--) {
                boolean may = like(hour, d) > 0 && !forbidden[d];
                if (may && (best == NONE || like(hour, d) >= like(hour, best))) {
                    best = d;
                }
            }
        }
        return best;
    }

    private int joyBy(int set) {
        int joy = 0;
        for (int hour = 0; hour < 24; hour++) {
            int d = by(set, hour);
            joy += d == NONE || d == 6 ? 0 : like(hour, d);
        }
        return joy;
    }

    private int firstClash(int set) {
        for (int hour = 0; hour < 24; hour++) {
            if (by(set, hour) == 6) {
                return hour;
            }
        }
        return NONE;
    }

    int does(int year, int hour) {
        return year < 0 || year > 29 || hour < 0 || hour > 23 ? BAD : by(binds(year, 0), hour);
    }

    int joy(int year, int what) {
        if (year < 0 || year > 29 || what < 0 || what > 1) {
            return BAD;
        }
        return what == 0 ? joyBy(binds(year, 0)) : firstClash(binds(year, 0));
    }

    int quarrels(int year, int what) {
        if (year < 0 || year > 29 || what < 0 || what > 1) {
            return BAD;
        }
        int set = binds(year, 0);
        int many = 0;
        int least = NONE;
        for (int pair = 143; pair >= 0; pair--) {
            int i = pair / 12;
            int j = pair % 12;
            int both = 1 << i | 1 << j;
            if (i < j && (set & both) == both && firstClash(both) != NONE) {
                many++;
                least = pair;
            }
        }
        return what == 0 ? many : least;
    }

    // ---- plans

    int exempt(int year, int hour, int deed, int what) {
        if (year < 0 || year > 29 || hour < 0 || hour > 23 || deed < -1 || deed > 5 || what < 0 || what > 1) {
            return BAD;
        }
        int set = binds(year, 0);
        int best = NONE;
        for (int out = 0; out < 4096; out++) {
            boolean smaller = best == NONE || Integer.bitCount(out) < Integer.bitCount(best);
            if ((out & ~set) == 0 && smaller && by(set & ~out, hour) == deed) {
                best = out;
            }
        }
        return best == NONE || what == 1 ? best : Integer.bitCount(best);
    }

    int keep(int year, int what) {
        if (year < 0 || year > 29 || what < 0 || what > 1) {
            return BAD;
        }
        int set = binds(year, 0);
        int best = NONE;
        int bestJoy = 0;
        for (int kept = 0; kept < 4096; kept++) {
            int more = Integer.bitCount(kept) - (best == NONE ? -1 : Integer.bitCount(best));
            if ((kept & ~set) == 0 && more >= 0 && firstClash(kept) == NONE && (more > 0 || joyBy(kept) > bestJoy)) {
                best = kept;
                bestJoy = joyBy(kept);
            }
        }
        return what == 0 ? best : bestJoy;
    }

    int order(int laws, int year, int i) {
        int many = Integer.bitCount(laws);
        if (laws <= 0 || laws >= 1 << items(0).size() || many > 4 || year < 0 || year > 29 || year + many - 1 > 29) {
            return BAD;
        }
        if (i < -1 || i > 3) {
            return BAD;
        }
        int best = NONE;
        int[] bestRow = null;
        for (int code = 0; code < 12 * 12 * 12 * 12; code++) {
            int[] row = rowOf(code, many, laws);
            if (row != null && joyInOrder(row, year) > best) {
                best = joyInOrder(row, year);
                bestRow = row;
            }
        }
        return i == NONE ? best : i < many ? bestRow[i] : NONE;
    }

    /** The laws that a number tells, first law first, if they are just the told ones. */
    private static int[] rowOf(int code, int many, int laws) {
        int[] row = new int[many];
        int bits = 0;
        int rest = code;
        for (int k = many - 1; k >= 0; k--) {
            row[k] = rest % 12;
            bits |= 1 << row[k];
            rest /= 12;
        }
        return rest == 0 && bits == laws ? row : null;
    }

    private int joyInOrder(int[] row, int year) {
        List<int[]> tries = new ArrayList<>();
        for (int k = 0; k < row.length; k++) {
            tries.add(new int[] {year + k, row[k]});
        }
        tries.addAll(trials);
        int joy = 0;
        for (int k = 0; k < row.length; k++) {
            joy += joyBy(binding(tries, breaches, year + k, true));
        }
        return joy;
    }

    // ---- seen, gout, years by lot

    int seen(int hour, int deed) {
        if (hour < 0 || hour > 23 || deed < -1 || deed > 5) {
            return BAD;
        }
        if (seen.size() == 8) {
            return FULL;
        }
        seen.add(new int[] {hour, deed});
        return seen.size();
    }

    int forget() {
        int had = seen.size();
        seen.clear();
        return had;
    }

    int read(int s) {
        if (s < 0 || s > 3) {
            return BAD;
        }
        if (sheets[s] == null) {
            return find(1);
        }
        int many = 0;
        while (2 * many + 1 < size(sheets[s]) && seen(item(sheets[s], 2 * many), item(sheets[s], 2 * many + 1)) > 0) {
            many++;
        }
        return many;
    }

    private List<Integer> fitting() {
        List<Integer> sets = new ArrayList<>();
        for (int set = 0; set < 1 << items(0).size(); set++) {
            boolean fits = true;
            for (int[] one : seen) {
                fits = fits && by(set, one[0]) == one[1];
            }
            if (fits) {
                sets.add(set);
            }
        }
        return sets;
    }

    int sets(int what) {
        if (what < 0 || what > 2) {
            return BAD;
        }
        List<Integer> sets = fitting();
        if (what == 0) {
            return sets.size();
        }
        if (what == 1) {
            return sets.isEmpty() ? NONE : sets.get(0);
        }
        int common = sets.isEmpty() ? 0 : sets.get(0);
        for (int set : sets) {
            common &= set;
        }
        return common;
    }

    int watch() {
        List<Integer> sets = fitting();
        int first = NONE;
        int least = 0;
        for (int hour = 0; hour < 24; hour++) {
            int[] many = new int[8];
            int most = 0;
            for (int set : sets) {
                int d = by(set, hour) + 1;
                many[d]++;
                most = Math.max(most, many[d]);
            }
            if (first == NONE || most < least) {
                first = hour;
                least = most;
            }
        }
        return first;
    }

    long gout(int c, int year, int hour, int deed, int what) {
        if (c < 0 || c > 16 || year < 0 || year > 29 || hour < 0 || hour > 23) {
            return Long.MIN_VALUE + 2;
        }
        if (deed < -1 || deed > 6 || what < 0 || what > 1) {
            return Long.MIN_VALUE + 2;
        }
        int set = binds(year, 0);
        BigInteger above = BigInteger.ZERO;
        BigInteger below = BigInteger.valueOf(16).pow(Integer.bitCount(set));
        for (int kept = 0; kept < 4096; kept++) {
            if ((kept & ~set) == 0 && by(kept, hour) == deed) {
                BigInteger ways = BigInteger.valueOf(16 - c).pow(Integer.bitCount(kept));
                above = above.add(ways.multiply(BigInteger.valueOf(c).pow(Integer.bitCount(set & ~kept))));
            }
        }
        BigInteger common = above.gcd(below);
        return (what == 0 ? above : below).divide(common).longValueExact();
    }

    int years(int seed, int n, int what) {
        int laws = items(0).size();
        if (laws == 0 || n < 1 || n > 30 || what < 0 || what > 1) {
            return BAD;
        }
        List<int[]> tries = new ArrayList<>();
        List<int[]> broken = new ArrayList<>();
        int now = seed;
        for (int year = 0; year < n; year++) {
            now = 1103515245 * now + 12345;
            int law = (now >>> 16) % laws;
            now = 1103515245 * now + 12345;
            if ((now >>> 16) % 4 == 0) {
                broken.add(new int[] {year, law});
            }
            tries.add(new int[] {year, law});
        }
        return what == 0 ? Integer.bitCount(binding(tries, broken, 29, false)) : joyBy(binding(tries, broken, 29, true));
    }

    // ---- sheets

    private int find(int number) {
        finding = number;
        return -10 - number;
    }

    private static int size(Object sheet) {
        return java.lang.reflect.Array.getLength(sheet);
    }

    private static int item(Object sheet, int i) {
        return java.lang.reflect.Array.getInt(sheet, i);
    }

    private static void lay(Object sheet, int i, int v) {
        if (sheet instanceof byte[]) {
            ((byte[]) sheet)[i] = (byte) v;
        } else if (sheet instanceof short[]) {
            ((short[]) sheet)[i] = (short) v;
        } else {
            ((int[]) sheet)[i] = v;
        }
    }

    private static int form(Object sheet) {
        return sheet instanceof byte[] ? 0 : sheet instanceof short[] ? 1 : 2;
    }

    int sheet(int s, int form, int n) {
        if (s < 0 || s > 3 || form < 0 || form > 2 || n > 60) {
            return BAD;
        }
        if (n < 0) {
            return find(5);
        }
        sheets[s] = form == 0 ? new byte[n] : form == 1 ? new short[n] : new int[n];
        return n;
    }

    int lose(int s) {
        if (s < 0 || s > 3) {
            return BAD;
        }
        if (sheets[s] == null) {
            return find(1);
        }
        int had = size(sheets[s]);
        sheets[s] = null;
        return had;
    }

    private int refusal(int s, int form, int i) {
        if (s < 0 || s > 3 || form < 0 || form > 2) {
            return BAD;
        }
        if (sheets[s] == null) {
            return find(1);
        }
        if (form(sheets[s]) != form) {
            return find(3);
        }
        return i < 0 || i >= size(sheets[s]) ? find(2) : 0;
    }

    int lay(int s, int form, int i, int v) {
        int refusal = refusal(s, form, i);
        if (refusal == 0) {
            lay(sheets[s], i, v);
        }
        return refusal == 0 ? 1 : refusal;
    }

    int get(int s, int form, int i) {
        return refusal(s, form, i) == 0 ? item(sheets[s], i) : Integer.MIN_VALUE;
    }

    int copy(int s, int i, int t, int j, int n) {
        if (s < 0 || s > 3 || t < 0 || t > 3) {
            return BAD;
        }
        if (sheets[s] == null || sheets[t] == null) {
            return find(1);
        }
        if (form(sheets[s]) != form(sheets[t])) {
            return find(4);
        }
        try {
            System.arraycopy(sheets[s], i, sheets[t], j, n);
        } catch (IndexOutOfBoundsException e) {
            return find(2);
        }
        return 1;
    }

    int write(int year, int s) {
        if (year < 0 || year > 29 || s < 0 || s > 3) {
            return BAD;
        }
        if (sheets[s] == null) {
            return find(1);
        }
        int many = Math.min(24, size(sheets[s]));
        for (int hour = 0; hour < many; hour++) {
            lay(sheets[s], hour, does(year, hour));
        }
        return many;
    }

    int count(int what) {
        switch (what) {
            case 0: return items(0).size();
            case 1: return items(1).size();
            case 2: return texts[0].length();
            case 3: return texts[1].length();
            case 4: return trials.size();
            case 5: return breaches.size();
            case 6: return seen.size();
            case 7: return Integer.bitCount(binds(29, 1));
            case 8: return finding;
            default: return BAD;
        }
    }

    long digest() {
        List<Long> all = new ArrayList<>();
        for (int what = 0; what < 8; what++) {
            all.add((long) count(what));
        }
        all.add((long) fault(0));
        all.add((long) fault(1));
        for (int k = 0; k < 5 * count(0); k++) {
            all.add((long) law(k / 5, k % 5));
        }
        for (int k = 0; k < 3 * count(1); k++) {
            all.add((long) want(k / 3, k % 3));
        }
        for (int year : new int[] {0, 3, 29}) {
            int[] told = {binds(year, 0), binds(year, 1), binds(year, 2), joy(year, 0), joy(year, 1),
                quarrels(year, 0), quarrels(year, 1), keep(year, 0), keep(year, 1)};
            for (int one : told) {
                all.add((long) one);
            }
            for (int hour : new int[] {0, 8, 20}) {
                all.add((long) does(year, hour));
                all.add((long) exempt(year, hour, 1, 0));
                all.add((long) exempt(year, hour, 1, 1));
                all.add(gout(5, year, hour, 1, 0));
                all.add(gout(5, year, hour, 1, 1));
            }
        }
        int[] last = {order(3, 2, NONE), order(3, 2, 0), sets(0), sets(1), sets(2), watch(), years(7, 20, 0), years(7, 20, 1)};
        for (int one : last) {
            all.add((long) one);
        }
        long h = 17;
        for (long one : all) {
            h = 31 * h + one;
        }
        return h;
    }
}

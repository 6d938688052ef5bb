import java.util.Random;

/** Random runs of calls, each answer beside that of the oracle. */
public final class RandomRunsTest {
    private static final int RUNS = 900;
    private static final int[] EDGES = {Integer.MIN_VALUE, Integer.MIN_VALUE + 1, -13, -2, 60, 61, 255, 256, 4095, 4096,
        Integer.MAX_VALUE - 1, Integer.MAX_VALUE};

    private final Random random;
    private final Check check;
    private final KingsYear it = new KingsYear();
    private final Oracle due = new Oracle();
    private final String name;
    private final StringBuilder story = new StringBuilder();
    private int calls = 0;

    private RandomRunsTest(int run, Check check) {
        this.random = new Random(7001L * run + 3);
        this.check = check;
        this.name = "run " + run;
    }

    public static void main(String[] args) {
        Check check = new Check();
        for (int run = 0; run < RUNS && check.isWell(); run++) {
            RandomRunsTest test = new RandomRunsTest(run, check);
            test.live(run);
            if (!check.isWell()) {
                System.out.println(test.story);
            }
        }
        check.end("RandomRunsTest");
    }

    private void live(int run) {
        typeAll(0, lawText());
        typeAll(1, wantText());
        int trials = random.nextInt(13);
        for (int k = 0; k < trials; k++) {
            call(6);
        }
        int most = run % 9 == 0 ? 505 : 230;
        while (calls < most && check.isWell()) {
            step();
        }
    }

    /** Mostly a call; now and then a whole new text. */
    private void step() {
        int dice = random.nextInt(100);
        if (dice == 0) {
            same("wipe(0)", it.wipe(0), due.wipe(0));
            typeAll(0, lawText());
        } else if (dice == 1) {
            same("wipe(1)", it.wipe(1), due.wipe(1));
            typeAll(1, wantText());
        } else {
            call(random.nextInt(36));
        }
    }

    private void same(String call, long got, long want) {
        calls++;
        story.append(call).append(" = ").append(got).append("; ");
        check.due(name + ", call " + calls + ": " + call, got, want);
    }

    private void typeAll(int text, String s) {
        for (int i = 0; i < s.length() && calls < 400; i++) {
            same("type(" + text + ", " + (int) s.charAt(i) + ")", it.type(text, s.charAt(i)), due.type(text, s.charAt(i)));
        }
    }

    private String lawText() {
        int many = random.nextInt(4) == 0 ? 12 : random.nextInt(10);
        int deeds = 1 + random.nextInt(6);
        int hours = 1 + random.nextInt(24);
        int leaning = random.nextInt(4);
        StringBuilder s = new StringBuilder();
        for (int k = 0; k < many; k++) {
            s.append(k == 0 ? "" : ";").append(random.nextBoolean() ? 'm' : 'n').append((char) ('A' + random.nextInt(deeds)));
            s.append((char) ('a' + random.nextInt(hours))).append((char) ('a' + random.nextInt(hours)));
            if (random.nextInt(5) < leaning) {
                s.append((char) ('0' + random.nextInt(Math.min(10, many + 1))));
            }
        }
        return spoiled(s);
    }

    private String wantText() {
        int many = random.nextInt(13);
        int deeds = 1 + random.nextInt(6);
        int hours = 1 + random.nextInt(24);
        int likes = 1 + random.nextInt(9);
        StringBuilder s = new StringBuilder();
        for (int k = 0; k < many; k++) {
            s.append(k == 0 ? "" : ";").append((char) ('A' + random.nextInt(deeds)));
            s.append((char) ('a' + random.nextInt(hours))).append((char) ('1' + random.nextInt(likes)));
        }
        return spoiled(s);
    }

    private String spoiled(StringBuilder s) {
        if (s.length() > 0 && random.nextInt(12) == 0) {
            s.setCharAt(random.nextInt(s.length()), (char) anyByte());
        }
        return s.toString();
    }

    private int anyByte() {
        String likely = "mnABFGagxy0129;`@l/:";
        return random.nextInt(4) == 0 ? random.nextInt(256) : likely.charAt(random.nextInt(likely.length()));
    }

    /** A number from least to most; seldom one just beside, or far off. */
    private int number(int least, int most) {
        int dice = random.nextInt(60);
        if (dice == 0) {
            return least - 1;
        }
        if (dice == 1) {
            return most + 1;
        }
        if (dice == 2) {
            return EDGES[random.nextInt(EDGES.length)];
        }
        return least + random.nextInt(most - least + 1);
    }

    private int year() {
        return random.nextInt(3) == 0 ? number(0, 29) : number(0, 6);
    }

    private void call(int which) {
        if (which < 12) {
            callOfTelling(which);
        } else if (which < 24) {
            callOfAsking(which);
        } else {
            callOfSheets(which);
        }
    }

    private void callOfTelling(int which) {
        int a = number(0, 1);
        int y = year();
        int l = number(0, 11);
        switch (which) {
            case 0:
                int b = random.nextInt(20) == 0 ? number(0, 255) : anyByte();
                same("type(" + a + ", " + b + ")", it.type(a, b), due.type(a, b));
                // Taken back at once as a rule, since most texts would stay faulty.
                if (random.nextInt(6) != 0) {
                    same("fault(" + a + ")", it.fault(a), due.fault(a));
                    same("undo(" + a + ")", it.undo(a), due.undo(a));
                }
                break;
            case 1:
                if (random.nextInt(8) == 0) {
                    same("wipe(" + a + ")", it.wipe(a), due.wipe(a));
                }
                break;
            case 2:
                if (random.nextInt(4) == 0) {
                    same("undo(" + a + ")", it.undo(a), due.undo(a));
                }
                break;
            case 3:
                same("fault(" + a + ")", it.fault(a), due.fault(a));
                break;
            case 4:
                int part = number(0, 4);
                same("law(" + l + ", " + part + ")", it.law(l, part), due.law(l, part));
                break;
            case 5:
                int what = number(0, 2);
                same("want(" + l + ", " + what + ")", it.want(l, what), due.want(l, what));
                break;
            case 6:
            case 7:
                same("trial(" + y + ", " + l + ")", it.trial(y, l), due.trial(y, l));
                break;
            case 8:
            case 9:
                same("breach(" + y + ", " + l + ")", it.breach(y, l), due.breach(y, l));
                break;
            default:
                same("back(" + a + ")", it.back(a), due.back(a));
                break;
        }
    }

    private void callOfAsking(int which) {
        int a = number(0, 1);
        int w = number(0, 2);
        int y = year();
        int h = number(0, 23);
        int d = number(-1, 5);
        switch (which) {
            case 12:
                same("binds(" + y + ", " + w + ")", it.binds(y, w), due.binds(y, w));
                break;
            case 13:
                same("does(" + y + ", " + h + ")", it.does(y, h), due.does(y, h));
                break;
            case 14:
                same("joy(" + y + ", " + a + ")", it.joy(y, a), due.joy(y, a));
                break;
            case 15:
                same("quarrels(" + y + ", " + a + ")", it.quarrels(y, a), due.quarrels(y, a));
                break;
            case 16:
                same("exempt(" + y + ", " + h + ", " + d + ", " + a + ")", it.exempt(y, h, d, a), due.exempt(y, h, d, a));
                break;
            case 17:
                same("keep(" + y + ", " + a + ")", it.keep(y, a), due.keep(y, a));
                break;
            case 18:
                orders(y);
                break;
            case 19:
                same("seen(" + h + ", " + d + ")", it.seen(h, d), due.seen(h, d));
                break;
            case 20:
                if (random.nextInt(3) == 0) {
                    same("forget()", it.forget(), due.forget());
                }
                break;
            case 21:
                same("sets(" + w + ")", it.sets(w), due.sets(w));
                break;
            case 22:
                same("watch()", it.watch(), due.watch());
                break;
            default:
                chances(y, h, a);
                break;
        }
    }

    private void orders(int y) {
        int laws = 0;
        int most = Math.max(1, due.count(0));
        for (int k = random.nextInt(6); k >= 0; k--) {
            laws |= 1 << random.nextInt(most);
        }
        laws = random.nextInt(15) == 0 ? number(0, 4095) : laws;
        int year = random.nextInt(6) == 0 ? 26 + random.nextInt(5) : y;
        int i = number(-1, 3);
        same("order(" + laws + ", " + year + ", " + i + ")", it.order(laws, year, i), due.order(laws, year, i));
    }

    private void chances(int y, int h, int a) {
        int c = number(0, 16);
        int d = number(-1, 6);
        String args = c + ", " + y + ", " + h + ", " + d + ", " + a;
        same("gout(" + args + ")", it.gout(c, y, h, d, a), due.gout(c, y, h, d, a));
        int seed = random.nextInt();
        int n = number(1, 30);
        same("years(" + seed + ", " + n + ", " + a + ")", it.years(seed, n, a), due.years(seed, n, a));
    }

    private void callOfSheets(int which) {
        int s = number(0, 3);
        int f = number(0, 2);
        int i = number(0, 12);
        switch (which) {
            case 24:
                int n = random.nextInt(12) == 0 ? number(-2, 60) : number(0, 30);
                same("sheet(" + s + ", " + f + ", " + n + ")", it.sheet(s, f, n), due.sheet(s, f, n));
                break;
            case 25:
                if (random.nextInt(3) == 0) {
                    same("lose(" + s + ")", it.lose(s), due.lose(s));
                }
                break;
            case 26:
            case 27:
                int v = random.nextInt(4) == 0 ? random.nextInt() : random.nextInt(2) == 0 ? number(-1, 23) : number(-200, 300);
                same("lay(" + s + ", " + f + ", " + i + ", " + v + ")", it.lay(s, f, i, v), due.lay(s, f, i, v));
                break;
            case 28:
            case 29:
                same("get(" + s + ", " + f + ", " + i + ")", it.get(s, f, i), due.get(s, f, i));
                break;
            case 30:
            case 31:
                copies(s, i);
                break;
            case 32:
                int y = year();
                same("write(" + y + ", " + s + ")", it.write(y, s), due.write(y, s));
                break;
            case 33:
                same("read(" + s + ")", it.read(s), due.read(s));
                break;
            case 34:
                int what = number(0, 8);
                same("count(" + what + ")", it.count(what), due.count(what));
                break;
            default:
                if (random.nextInt(4) == 0) {
                    same("digest()", it.digest(), due.digest());
                }
                break;
        }
    }

    private void copies(int s, int i) {
        int t = random.nextBoolean() ? s : number(0, 3);
        int j = number(0, 12);
        int n = number(0, 12);
        String args = s + ", " + i + ", " + t + ", " + j + ", " + n;
        same("copy(" + args + ")", it.copy(s, i, t, j, n), due.copy(s, i, t, j, n));
    }
}

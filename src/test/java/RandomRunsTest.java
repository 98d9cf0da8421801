import java.util.List;
import java.util.Random;
import java.util.TreeSet;

/** Runs of 512 calls on new objects, by lots that are the same each time; each answer is compared with Model's. */
public final class RandomRunsTest {
    private static final int CALLS = 512;

    private final Random lots;
    private final CellFigures real = new CellFigures();
    private final Model model = new Model();
    private String call = "";
    private long got;
    private long due;

    private RandomRunsTest(int run) {
        lots = new Random(7919L * run + 17);
    }

    public static void main(String[] args) {
        int runs = args.length > 0 ? Integer.parseInt(args[0]) : 150;
        int wrong = 0;
        for (int run = 1; run <= runs && wrong < 20; run++) {
            RandomRunsTest test = new RandomRunsTest(run);
            for (int i = 0; i < CALLS && wrong < 20; i++) {
                test.next();
                if (test.got != test.due) {
                    wrong++;
                    System.out.println("run " + run + ", call " + i + ": " + test.call + " answered " + test.got + ", due is " + test.due);
                }
            }
        }
        System.out.println(wrong == 0 ? "random runs: all answers are as due" : "random runs: wrong answers");
        if (wrong != 0) {
            System.exit(1);
        }
    }

    /** From low to high, and now and then beyond. */
    private int near(int low, int high) {
        int die = lots.nextInt(40);
        if (die == 0) return low - 1;
        if (die == 1) return high + 1;
        if (die == 2 && lots.nextInt(8) == 0) return List.of(Integer.MIN_VALUE, Integer.MAX_VALUE, -100, 1000).get(lots.nextInt(4));
        return low + lots.nextInt(high - low + 1);
    }

    private int drawer() {
        return near(0, 7);
    }

    private int kind() {
        return near(0, 2);
    }

    private boolean coin() {
        return lots.nextBoolean();
    }

    private void say(String name, Object... args) {
        StringBuilder out = new StringBuilder(name).append('(');
        for (int i = 0; i < args.length; i++) out.append(i > 0 ? ", " : "").append(args[i]);
        call = out.append(')').toString();
    }

    private int word() {
        int w = 0;
        for (int i = 0; i < 4; i++) {
            int die = lots.nextInt(60);
            int sign = die < 30 ? '#' : die < 40 ? '.' : die < 52 ? '/' : die < 59 ? ' ' : lots.nextInt(256);
            w = w << 8 | sign;
        }
        return w;
    }

    private void next() {
        int die = lots.nextInt(50);
        if (die < 6) fillDrawers();
        else if (die < 20) figures();
        else if (die < 28) lists();
        else if (die < 36) lines();
        else if (die < 44) parts();
        else pairs();
    }

    /** A long thin figure: cells one beside the other, till there are n or none is left. */
    private long snake(int n) {
        TreeSet<Model.P> cells = new TreeSet<>();
        Model.P at = new Model.P(lots.nextInt(7), lots.nextInt(7));
        cells.add(at);
        for (int i = 0; i < 60 && cells.size() < n; i++) {
            Model.P next = at.sides().get(lots.nextInt(3) == 0 ? lots.nextInt(4) : i / 12 % 4);
            if (next.x() >= 0 && next.x() < 7 && next.y() >= 0 && next.y() < 7) {
                cells.add(next);
                at = next;
            }
        }
        return Model.numberOf(Model.home(cells));
    }

    private void fillDrawers() {
        int d = drawer();
        int die = lots.nextInt(12);
        if (die >= 10) {
            long number = snake(1 + lots.nextInt(12));
            say("put", d, number);
            got = real.put(d, number) ? 1 : 0;
            due = model.put(d, number) ? 1 : 0;
        } else if (die < 4) {
            int seed = lots.nextInt();
            int n = near(1, lots.nextInt(3) == 0 ? 12 : 7);
            say("drawn", d, seed, n);
            got = real.drawn(d, seed, n);
            due = model.drawn(d, seed, n);
        } else if (die < 6) {
            // Small figures and the ring of eight, whose middle is a hole.
            long number = List.of(1L, 3L, 257L, 7L, 259L, 15L, 771L, 460039L, 460295L, 0L, 2L, 5L, 128L, -1L, 1L << 54).get(lots.nextInt(15));
            say("put", d, number);
            got = real.put(d, number) ? 1 : 0;
            due = model.put(d, number) ? 1 : 0;
        } else if (die < 8) {
            int a = word();
            int b = word();
            int c = word();
            int e = word();
            int f = word();
            say("feed", a, b, c, e, f);
            got = real.feed(a, b, c, e, f);
            due = model.feed(a, b, c, e, f);
        } else {
            int n = lots.nextInt(3) == 0 ? near(1, 60) : near(3, 12);
            say("figure", d, n);
            got = real.figure(d, n);
            due = model.figure(d, n);
        }
    }

    private void figures() {
        int d = drawer();
        int e = drawer();
        int kind = kind();
        int x = near(-1, 7);
        int y = near(-1, 7);
        int what = near(0, 14);
        boolean is = coin();
        int die = lots.nextInt(30);
        if (die == 0) {
            say("take", d);
            got = real.take(d);
            due = model.take(d);
        } else if (die < 8) {
            say("told", d, what);
            got = real.told(d, what);
            due = model.told(d, what);
        } else if (die < 10) {
            say("cell", d, x, y);
            got = real.cell(d, x, y);
            due = model.cell(d, x, y);
        } else if (die < 12) {
            say("number", d, kind);
            got = real.number(d, kind);
            due = model.number(d, kind);
        } else if (die < 15) {
            int t = near(0, 7);
            say("turn", d, t);
            got = real.turn(d, t);
            due = model.turn(d, t);
        } else if (die < 17) {
            say("alike", d, e, kind);
            got = real.alike(d, e, kind);
            due = model.alike(d, e, kind);
        } else if (die < 25) {
            say("change", d, x, y, is);
            got = real.change(d, x, y, is);
            due = model.change(d, x, y, is);
        } else if (die < 26) {
            say("keep");
            got = real.keep();
            due = model.keep();
        } else if (die < 27) {
            say("back");
            got = real.back();
            due = model.back();
        } else if (die < 28) {
            say("swap", d, e);
            got = real.swap(d, e);
            due = model.swap(d, e);
        } else {
            int w = near(0, 2);
            say("count", w);
            got = real.count(w);
            due = model.count(w);
        }
    }

    private void lists() {
        int n = near(1, 7);
        int kind = kind();
        int what = near(0, 14);
        int low = near(0, 10);
        int high = low + near(0, 5);
        int k = near(0, lots.nextInt(4) == 0 ? 760 : 20);
        int d = drawer();
        switch (lots.nextInt(7)) {
            case 0:
                say("list", n, kind);
                got = real.list(n, kind);
                due = model.list(n, kind);
                break;
            case 1:
                say("listed", n, kind, k);
                got = real.listed(n, kind, k);
                due = model.listed(n, kind, k);
                break;
            case 2:
                say("place", d, kind);
                got = real.place(d, kind);
                due = model.place(d, kind);
                break;
            case 3:
                say("many", n, kind, what, low, high);
                got = real.many(n, kind, what, low, high);
                due = model.many(n, kind, what, low, high);
                break;
            case 4:
                say("found", n, kind, what, low, high, k);
                got = real.found(n, kind, what, low, high, k);
                due = model.found(n, kind, what, low, high, k);
                break;
            case 5:
                boolean most = coin();
                say("crowd", n, kind, what, most);
                got = real.crowd(n, kind, what, most);
                due = model.crowd(n, kind, what, most);
                break;
            default:
                say("tilers", n, kind);
                got = real.tilers(n, kind);
                due = model.tilers(n, kind);
        }
    }

    private void lines() {
        int d = drawer();
        int x = near(-20, 20);
        int y = near(-20, 20);
        switch (lots.nextInt(6)) {
            case 0:
                int i = near(0, 26);
                say("line", d, i);
                got = real.line(d, i);
                due = model.line(d, i);
                break;
            case 1:
                int what = near(0, 5);
                say("tiles", d, what);
                got = real.tiles(d, what);
                due = model.tiles(d, what);
                break;
            case 2:
                int w = near(0, 4);
                say("vector", d, w);
                got = real.vector(d, w);
                due = model.vector(d, w);
                break;
            case 3:
                int o = near(0, 2);
                say("owner", d, x, y, o);
                got = real.owner(d, x, y, o);
                due = model.owner(d, x, y, o);
                break;
            default:
                int width = near(1, 6);
                int height = near(1, 6);
                int some = lots.nextInt(10) == 0 ? near(1, 255) : 1 << lots.nextInt(8) | 1 << lots.nextInt(8);
                boolean turned = coin();
                say("fill", width, height, some, turned);
                got = real.fill(width, height, some, turned);
                due = model.fill(width, height, some, turned);
        }
    }

    private void parts() {
        int d = drawer();
        int e = drawer();
        int kind = kind();
        boolean is = coin();
        switch (lots.nextInt(8)) {
            case 0:
            case 1:
                int what = near(0, 7);
                say("part", d, what);
                got = real.part(d, what);
                due = model.part(d, what);
                break;
            case 2:
                say("inside", d, e, is);
                got = real.inside(d, e, is);
                due = model.inside(d, e, is);
                break;
            case 3:
                say("common", d, e);
                got = real.common(d, e);
                due = model.common(d, e);
                break;
            case 4:
                say("kin", d, kind, is);
                got = real.kin(d, kind, is);
                due = model.kin(d, kind, is);
                break;
            case 5:
                int k = near(0, 20);
                say("kinAt", d, kind, is, k);
                got = real.kinAt(d, kind, is, k);
                due = model.kinAt(d, kind, is, k);
                break;
            case 6:
                say("way", d, e);
                got = real.way(d, e);
                due = model.way(d, e);
                break;
            default:
                say("farthest", d, is);
                got = real.farthest(d, is);
                due = model.farthest(d, is);
        }
    }

    private void pairs() {
        int d = drawer();
        int e = drawer();
        int reach = coin() ? 7 : 3;
        int u = near(-reach, reach);
        int v = near(-reach, reach);
        switch (lots.nextInt(3)) {
            case 0:
                boolean more = lots.nextInt(3) != 0;
                say("join", d, e, u, v, more);
                got = real.join(d, e, u, v, more);
                due = model.join(d, e, u, v, more);
                break;
            case 1:
                say("share", d, e, u, v);
                got = real.share(d, e, u, v);
                due = model.share(d, e, u, v);
                break;
            default:
                int what = near(0, 5);
                say("touch", d, e, what);
                got = real.touch(d, e, what);
                due = model.touch(d, e, what);
        }
    }
}

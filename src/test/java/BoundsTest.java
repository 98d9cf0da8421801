import java.util.ArrayList;
import java.util.List;

/**
 * The bounds of every argument of every call: the last value that is still taken and the first that is not, on
 * either side; and of all combinations of such values the answers, held against Model's.
 */
public final class BoundsTest extends TestBase {
    private static final int LEAST = Integer.MIN_VALUE;
    private static final int GREATEST = Integer.MAX_VALUE;

    /** Eight figures that are unlike in all that calls ask for, the last of one cell. */
    private static final long[] HELD = {T, L, RING, U, SQUARE, THREE_BY_FOUR, BAR_7, ONE};

    /** A call by its arguments, a boolean as 1 or 0. */
    interface Face {
        long on(CellFigures x, int[] a);
    }

    /** The same on Model. */
    interface Second {
        long on(Model x, int[] a);
    }

    /** Of an argument the least and the greatest value that there is. */
    record Range(int low, int high) {
    }

    private static final Range DRAWER = new Range(0, 7);
    private static final Range KIND = new Range(0, 2);
    private static final Range SIZE = new Range(1, 7);
    private static final Range TRAIT = new Range(0, 14);
    private static final Range MOVE = new Range(-7, 7);
    private static final Range FLAG = new Range(0, 1);
    private static final Range FROM_0 = new Range(0, GREATEST);
    private static final Range ANY = new Range(LEAST, GREATEST);

    /** A call with the ranges of its arguments; refusal: what it answers beyond them. */
    record Row(int promise, String name, long refusal, Face face, Second second, Range... ranges) {
        boolean isFlag(int i) {
            return ranges[i] == FLAG;
        }

        String told(int[] a) {
            StringBuilder out = new StringBuilder(name).append('(');
            for (int i = 0; i < a.length; i++) {
                out.append(i > 0 ? ", " : "");
                if (isFlag(i)) out.append(a[i] == 1);
                else out.append(a[i]);
            }
            return out.append(')').toString();
        }
    }

    private static final List<Row> ROWS = new ArrayList<>();

    private BoundsTest() {
    }

    public static void main(String[] args) {
        figuresInDrawers();
        lists();
        growing();
        lines();
        parts();
        for (Row row : ROWS) {
            promise(row.promise);
            eachAlone(row);
            together(row);
        }
        manyAndFound();
        end("bounds");
    }

    private static void row(int promise, String name, Face face, Second second, Range... ranges) {
        ROWS.add(new Row(promise, name, NONE, face, second, ranges));
    }

    private static int bit(boolean b) {
        return b ? 1 : 0;
    }

    private static void figuresInDrawers() {
        row(3, "figure", (x, a) -> x.figure(a[0], a[1]), (x, a) -> x.figure(a[0], a[1]), DRAWER, new Range(1, 60));
        ROWS.add(new Row(4, "put T", 0, (x, a) -> bit(x.put(a[0], T)), (x, a) -> bit(x.put(a[0], T)), DRAWER));
        row(5, "take", (x, a) -> x.take(a[0]), (x, a) -> x.take(a[0]), DRAWER);
        row(6, "told", (x, a) -> x.told(a[0], a[1]), (x, a) -> x.told(a[0], a[1]), DRAWER, TRAIT);
        row(7, "cell", (x, a) -> x.cell(a[0], a[1], a[2]), (x, a) -> x.cell(a[0], a[1], a[2]),
            DRAWER, new Range(0, 6), new Range(0, 6));
        row(8, "number", (x, a) -> x.number(a[0], a[1]), (x, a) -> x.number(a[0], a[1]), DRAWER, KIND);
        row(9, "turn", (x, a) -> x.turn(a[0], a[1]), (x, a) -> x.turn(a[0], a[1]), DRAWER, new Range(0, 7));
        row(10, "alike", (x, a) -> x.alike(a[0], a[1], a[2]), (x, a) -> x.alike(a[0], a[1], a[2]), DRAWER, DRAWER, KIND);
        row(11, "change", (x, a) -> x.change(a[0], a[1], a[2], a[3] == 1), (x, a) -> x.change(a[0], a[1], a[2], a[3] == 1),
            DRAWER, new Range(-1, 7), new Range(-1, 7), FLAG);
        row(38, "count", (x, a) -> x.count(a[0]), (x, a) -> x.count(a[0]), new Range(0, 2));
    }

    private static void lists() {
        row(12, "list", (x, a) -> x.list(a[0], a[1]), (x, a) -> x.list(a[0], a[1]), SIZE, KIND);
        row(13, "listed", (x, a) -> x.listed(a[0], a[1], a[2]), (x, a) -> x.listed(a[0], a[1], a[2]), SIZE, KIND, FROM_0);
        row(14, "place", (x, a) -> x.place(a[0], a[1]), (x, a) -> x.place(a[0], a[1]), DRAWER, KIND);
        row(15, "many from 1 to 8", (x, a) -> x.many(a[0], a[1], a[2], 1, 8), (x, a) -> x.many(a[0], a[1], a[2], 1, 8),
            SIZE, KIND, TRAIT);
        row(16, "found from 1 to 8", (x, a) -> x.found(a[0], a[1], a[2], 1, 8, a[3]),
            (x, a) -> x.found(a[0], a[1], a[2], 1, 8, a[3]), SIZE, KIND, TRAIT, FROM_0);
        row(17, "crowd", (x, a) -> x.crowd(a[0], a[1], a[2], a[3] == 1), (x, a) -> x.crowd(a[0], a[1], a[2], a[3] == 1),
            SIZE, KIND, TRAIT, FLAG);
        row(25, "tilers", (x, a) -> x.tilers(a[0], a[1]), (x, a) -> x.tilers(a[0], a[1]), SIZE, KIND);
    }

    private static void growing() {
        row(18, "kin", (x, a) -> x.kin(a[0], a[1], a[2] == 1), (x, a) -> x.kin(a[0], a[1], a[2] == 1), DRAWER, KIND, FLAG);
        row(19, "kinAt", (x, a) -> x.kinAt(a[0], a[1], a[2] == 1, a[3]), (x, a) -> x.kinAt(a[0], a[1], a[2] == 1, a[3]),
            DRAWER, KIND, FLAG, FROM_0);
        row(20, "way", (x, a) -> x.way(a[0], a[1]), (x, a) -> x.way(a[0], a[1]), DRAWER, DRAWER);
        row(21, "farthest", (x, a) -> x.farthest(a[0], a[1] == 1), (x, a) -> x.farthest(a[0], a[1] == 1), DRAWER, FLAG);
        row(22, "drawn", (x, a) -> x.drawn(a[0], a[1], a[2]), (x, a) -> x.drawn(a[0], a[1], a[2]), DRAWER, ANY, new Range(1, 12));
    }

    private static void lines() {
        row(23, "line", (x, a) -> x.line(a[0], a[1]), (x, a) -> x.line(a[0], a[1]), DRAWER, FROM_0);
        row(24, "tiles", (x, a) -> x.tiles(a[0], a[1]), (x, a) -> x.tiles(a[0], a[1]), DRAWER, new Range(0, 5));
        row(26, "fill", (x, a) -> x.fill(a[0], a[1], a[2], a[3] == 1), (x, a) -> x.fill(a[0], a[1], a[2], a[3] == 1),
            new Range(1, 6), new Range(1, 6), new Range(1, 255), FLAG);
        row(27, "vector", (x, a) -> x.vector(a[0], a[1]), (x, a) -> x.vector(a[0], a[1]), DRAWER, new Range(0, 4));
        row(28, "owner", (x, a) -> x.owner(a[0], a[1], a[2], a[3]), (x, a) -> x.owner(a[0], a[1], a[2], a[3]),
            DRAWER, new Range(-20, 20), new Range(-20, 20), new Range(0, 2));
    }

    private static void parts() {
        row(29, "part", (x, a) -> x.part(a[0], a[1]), (x, a) -> x.part(a[0], a[1]), DRAWER, new Range(0, 7));
        row(30, "inside", (x, a) -> x.inside(a[0], a[1], a[2] == 1), (x, a) -> x.inside(a[0], a[1], a[2] == 1),
            DRAWER, DRAWER, FLAG);
        row(31, "common", (x, a) -> x.common(a[0], a[1]), (x, a) -> x.common(a[0], a[1]), DRAWER, DRAWER);
        row(34, "join", (x, a) -> x.join(a[0], a[1], a[2], a[3], a[4] == 1),
            (x, a) -> x.join(a[0], a[1], a[2], a[3], a[4] == 1), DRAWER, DRAWER, MOVE, MOVE, FLAG);
        row(35, "swap", (x, a) -> x.swap(a[0], a[1]), (x, a) -> x.swap(a[0], a[1]), DRAWER, DRAWER);
        row(36, "share", (x, a) -> x.share(a[0], a[1], a[2], a[3]), (x, a) -> x.share(a[0], a[1], a[2], a[3]),
            DRAWER, DRAWER, MOVE, MOVE);
        row(37, "touch", (x, a) -> x.touch(a[0], a[1], a[2]), (x, a) -> x.touch(a[0], a[1], a[2]), DRAWER, DRAWER, new Range(0, 5));
    }

    /** One argument beyond its bounds, all others within, in full drawers and in empty ones: refused, and nothing changes. */
    private static void eachAlone(Row row) {
        for (int i = 0; i < row.ranges.length; i++) {
            if (row.isFlag(i)) continue;
            for (int value : beyond(row.ranges[i])) {
                for (boolean high : new boolean[] {false, true}) {
                    int[] a = within(row, high);
                    a[i] = value;
                    unchanged(row.told(a), () -> laden(HELD), row.refusal, x -> row.face.on(x, a));
                    unchanged(row.told(a) + ", drawers empty", () -> laden(), row.refusal, x -> row.face.on(x, a));
                }
            }
            for (int value : new int[] {row.ranges[i].low, row.ranges[i].high}) {
                int[] a = within(row, false);
                a[i] = value;
                due(row.told(a) + " is taken", row.face.on(laden(HELD), a) != row.refusal, true);
            }
        }
    }

    private static int[] within(Row row, boolean high) {
        int[] a = new int[row.ranges.length];
        for (int i = 0; i < a.length; i++) a[i] = high ? row.ranges[i].high : row.ranges[i].low;
        return a;
    }

    /** The first values beyond a range, and the farthest. */
    private static List<Integer> beyond(Range range) {
        List<Integer> out = new ArrayList<>();
        if (range.low > LEAST) out.addAll(List.of(range.low - 1, LEAST));
        if (range.high < GREATEST) out.addAll(List.of(range.high + 1, GREATEST));
        return out;
    }

    /** The values on either side of both bounds. */
    private static List<Integer> edges(Range range) {
        List<Integer> out = new ArrayList<>();
        if (range == FLAG) return List.of(0, 1);
        if (range.low > LEAST) out.add(range.low - 1);
        out.add(range.low);
        // Where there is no upper bound, small ones are of more use than the greatest of all.
        if (range.high == GREATEST) out.addAll(List.of(1, 7, 12));
        out.add(range.high);
        if (range.high < GREATEST) out.add(range.high + 1);
        return out;
    }

    /** Every combination of edges on an object of its own: answers and what is there behind them are as Model's. */
    private static void together(Row row) {
        int[] a = new int[row.ranges.length];
        combine(row, a, 0);
    }

    private static void combine(Row row, int[] a, int i) {
        if (i < a.length) {
            for (int value : edges(row.ranges[i])) {
                a[i] = value;
                combine(row, a, i + 1);
            }
            return;
        }
        for (boolean full : new boolean[] {true, false}) {
            CellFigures real = new CellFigures();
            Model model = new Model();
            tape(real, "##/.#" + " ".repeat(75));
            modelTape(model, "##/.#" + " ".repeat(75));
            for (int d = 0; d < 8 && full; d++) {
                real.put(d, HELD[d]);
                model.put(d, HELD[d]);
            }
            due(row.told(a), row.face.on(real, a), row.second.on(model, a));
            for (int d = 0; d < 8; d++) due(row.told(a) + ", then number(" + d + ", 0)", real.number(d, 0), model.number(d, 0));
            due(row.told(a) + ", then count(1)", real.count(1), model.count(1));
        }
    }

    private static void modelTape(Model model, String text) {
        for (int i = 0; i < text.length(); i += 20) {
            int[] w = new int[5];
            for (int k = 0; k < 20; k++) w[k / 4] = w[k / 4] << 8 | text.charAt(i + k);
            model.feed(w[0], w[1], w[2], w[3], w[4]);
        }
    }

    /** Low and high have no bounds of their own but that high is not below low. */
    private static void manyAndFound() {
        int[] values = {LEAST, LEAST + 1, -1, 0, 1, 7, 8, 9, GREATEST - 1, GREATEST};
        for (int low : values) {
            for (int high : values) {
                int first = low;
                int last = high;
                promise(15);
                String range = "4, 0, 3, " + low + ", " + high;
                long many = new Model().many(4, 0, 3, low, high);
                unchanged("many(" + range + ")", () -> laden(HELD), many, x -> x.many(4, 0, 3, first, last));
                promise(16);
                for (int k = -1; k <= 1; k++) {
                    int which = k;
                    long found = new Model().found(4, 0, 3, low, high, k);
                    unchanged("found(" + range + ", " + k + ")", () -> laden(HELD), found, x -> x.found(4, 0, 3, first, last, which));
                }
                due("many(" + range + ") is refused", many == NONE, high < low);
            }
        }
    }
}

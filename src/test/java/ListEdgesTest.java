/**
 * Promises 12 to 22 read sentence by sentence: for each that names a boundary case the last that is still so and the
 * first that is not, and for each refused call that nothing changes.
 */
public final class ListEdgesTest extends TestBase {
    private static final int LEAST = Integer.MIN_VALUE;
    private static final int GREATEST = Integer.MAX_VALUE;
    private static final int[][] SIZES = {{1, 2, 6, 19, 63, 216, 760}, {1, 1, 2, 7, 18, 60, 196}, {1, 1, 2, 5, 12, 35, 108}};
    /** Seven across and four down from the last: eleven cells. */
    private static final long CORNER_11 = CORNER_12 & ~(64L << 40);

    private ListEdgesTest() {
    }

    public static void main(String[] args) {
        list();
        listed();
        listedEnds();
        place();
        placeRefused();
        many();
        manyRefused();
        manyInAnyOrder();
        found();
        foundRefused();
        crowd();
        grown();
        shrunk();
        kinRefused();
        kinAt();
        way();
        farthest();
        drawnSeeds();
        drawnWithin();
        drawnRefused();
        end("edges of lists");
    }

    private static void list() {
        says(12, "LIST of a size (1 to 7 CELLS) and a KIND");
        for (int n = 1; n <= 7; n++) {
            for (int kind = 0; kind < 3; kind++) {
                int size = n;
                int of = kind;
                unchanged("list(" + n + ", " + kind + ")", () -> laden(T), SIZES[kind][n - 1], x -> x.list(size, of));
            }
        }
        says(12, "NONE: no such ones");
        for (int n : new int[] {0, 8, -1, LEAST, GREATEST}) unchanged("list(" + n + ", 0)", () -> laden(T), NONE, x -> x.list(n, 0));
        for (int k : new int[] {-1, 3, LEAST, GREATEST}) unchanged("list(1, " + k + ")", () -> laden(T), NONE, x -> x.list(1, k));
    }

    private static void listed() {
        says(13, "The NUMBER of its k-th one; -2: not so many; NONE: no such ones (k below 0)");
        for (int n = 1; n <= 7; n++) {
            for (int kind = 0; kind < 3; kind++) {
                CellFigures x = new CellFigures();
                Model model = new Model();
                String call = "listed(" + n + ", " + kind + ", ";
                int last = SIZES[kind][n - 1] - 1;
                due(call + "0)", x.listed(n, kind, 0), (1 << n) - 1);
                due(call + last + ")", x.listed(n, kind, last), model.listed(n, kind, last));
                due(call + last + ") is there", x.listed(n, kind, last) > 0, true);
                due(call + (last + 1) + ")", x.listed(n, kind, last + 1), -2);
                due(call + "greatest)", x.listed(n, kind, GREATEST), -2);
                due(call + "-1)", x.listed(n, kind, -1), NONE);
                due(call + "least)", x.listed(n, kind, LEAST), NONE);
            }
        }
        unchanged("listed(7, 0, 760)", () -> laden(T), -2, x -> x.listed(7, 0, 760));
        unchanged("listed(7, 0, -1)", () -> laden(T), NONE, x -> x.listed(7, 0, -1));
        says(13, "Of several reasons NONE comes first");
        for (int[] a : new int[][] {{0, 0}, {8, 0}, {1, -1}, {1, 3}}) {
            unchanged("listed, k too great", () -> laden(T), NONE, x -> x.listed(a[0], a[1], GREATEST));
        }
    }

    private static void listedEnds() {
        says(13, "all FIGURES that are their own one of that KIND, rising by NUMBER, from 0 on");
        for (int n = 1; n <= 6; n++) {
            for (int kind = 0; kind < 3; kind++) {
                CellFigures x = new CellFigures();
                Model model = new Model();
                for (int k = 0; k < SIZES[kind][n - 1]; k++) {
                    due("listed(" + n + ", " + kind + ", " + k + ")", x.listed(n, kind, k), model.listed(n, kind, k));
                }
            }
        }
        long pillar = 0;
        for (int n = 1; n <= 7; n++) {
            pillar = pillar << 8 | 1;
            due("the last of " + n, new CellFigures().listed(n, 0, SIZES[0][n - 1] - 1), pillar);
        }
    }

    private static void place() {
        says(14, "Where in the LIST of its size and a KIND a DRAWER's FIGURE's one stands");
        for (int n = 1; n <= 7; n++) {
            for (int kind = 0; kind < 3; kind++) {
                CellFigures x = new CellFigures();
                int last = SIZES[kind][n - 1] - 1;
                x.put(0, x.listed(n, kind, last));
                due("place of the last of " + n + ", kind " + kind, x.place(0, kind), last);
                x.put(0, x.listed(n, kind, 0));
                due("place of the first of " + n + ", kind " + kind, x.place(0, kind), 0);
                // Turned, it is the same one by its kind.
                x.put(0, x.listed(n, kind, last));
                x.turn(0, kind == 0 ? 0 : kind == 1 ? 3 : 7);
                due("place of the last of " + n + " turned, kind " + kind, x.place(0, kind), last);
            }
        }
    }

    private static void placeRefused() {
        says(14, "-2: empty; -3: more than 7 CELLS; NONE: no such ones");
        for (int kind = 0; kind < 3; kind++) {
            int of = kind;
            unchanged("of seven CELLS", () -> laden(BAR_7), 0, x -> x.place(0, of));
            unchanged("of eight CELLS", () -> laden(RING), -3, x -> x.place(0, of));
            unchanged("of eight CELLS, seven wide", () -> laden(BAR_7 | 1 << 8), -3, x -> x.place(0, of));
            unchanged("of twelve CELLS", () -> laden(THREE_BY_FOUR), -3, x -> x.place(0, of));
            unchanged("of an empty one", () -> laden(RING), -2, x -> x.place(1, of));
        }
        for (int kind : new int[] {-1, 3}) {
            unchanged("NONE first, empty", () -> laden(RING), NONE, x -> x.place(1, kind));
            unchanged("NONE first, of eight", () -> laden(RING), NONE, x -> x.place(0, kind));
        }
    }

    private static void many() {
        says(15, "How many of a LIST have told() what (0 to 14) from low to high");
        // SIDES of the five free ones of four cells: 10, 10, 10, 8, 10.
        int[][] ranges = {
            {8, 8, 1}, {9, 9, 0}, {10, 10, 4}, {8, 9, 1}, {9, 10, 4}, {8, 10, 5}, {7, 7, 0}, {11, 11, 0}, {7, 8, 1}, {10, 11, 4},
            {LEAST, 8, 1}, {LEAST, 7, 0}, {10, GREATEST, 4}, {11, GREATEST, 0}, {LEAST, GREATEST, 5},
            {LEAST, LEAST, 0}, {GREATEST, GREATEST, 0}, {-9, -1, 0}
        };
        for (int[] r : ranges) {
            unchanged("many(4, 2, 3, " + r[0] + ", " + r[1] + ")", () -> laden(T), r[2], x -> x.many(4, 2, 3, r[0], r[1]));
        }
        for (int what = 0; what < 15; what++) {
            due("many(7, 0, " + what + ", ..) of all", new CellFigures().many(7, 0, what, LEAST, GREATEST), 760);
            due("many(1, 2, " + what + ", ..) of all", new CellFigures().many(1, 2, what, LEAST, GREATEST), 1);
        }
        due("SAME 8 of seven", new CellFigures().many(7, 2, 13, 8, 8), 0);
        due("SAME 4 of seven", new CellFigures().many(7, 2, 13, 4, 8), 4);
        due("SAME 0", new CellFigures().many(7, 2, 13, 0, 0), 0);
    }

    private static void manyRefused() {
        says(15, "NONE: no such ones (high below low, too)");
        for (int[] r : new int[][] {{1, 0}, {GREATEST, LEAST}, {LEAST + 1, LEAST}, {GREATEST, GREATEST - 1}, {0, -1}}) {
            unchanged("many from " + r[0] + " to " + r[1], () -> laden(T), NONE, x -> x.many(4, 2, 3, r[0], r[1]));
            unchanged("found from " + r[0] + " to " + r[1], () -> laden(T), NONE, x -> x.found(4, 2, 3, r[0], r[1], 0));
        }
        for (int[] a : new int[][] {{0, 0, 0}, {8, 0, 0}, {1, -1, 0}, {1, 3, 0}, {1, 0, -1}, {1, 0, 15}}) {
            unchanged("many, no such ones", () -> laden(T), NONE, x -> x.many(a[0], a[1], a[2], 0, 9));
        }
    }

    /** One object asked for all that told() says, up and down: what it keeps of one answer must not spoil another. */
    private static void manyInAnyOrder() {
        says(15, "told() what (0 to 14)");
        Model model = new Model();
        for (int kind = 0; kind < 3; kind++) {
            CellFigures x = new CellFigures();
            for (int i = 0; i < 30; i++) {
                int what = i < 15 ? i : 29 - i;
                for (int value = 0; value < 9; value += 4) {
                    String call = "many(6, " + kind + ", " + what + ", " + value + ", " + (value + 3) + ")";
                    due(call, x.many(6, kind, what, value, value + 3), model.many(6, kind, what, value, value + 3));
                }
                due("tilers(6, " + kind + ")", x.tilers(6, kind), model.tilers(6, kind));
                due("crowd(6, " + kind + ", " + what + ", true)", x.crowd(6, kind, what, true), model.crowd(6, kind, what, true));
                due("crowd(5, " + kind + ", " + what + ", false)", x.crowd(5, kind, what, false), model.crowd(5, kind, what, false));
            }
        }
    }

    private static void found() {
        says(16, "The k-th of these: its NUMBER; -2: not so many");
        CellFigures x = new CellFigures();
        long[] tens = {15, 263, 519, 774};
        for (int k = 0; k < 4; k++) due("found(4, 2, 3, 10, 10, " + k + ")", x.found(4, 2, 3, 10, 10, k), tens[k]);
        due("found(4, 2, 3, 10, 10, 4)", x.found(4, 2, 3, 10, 10, 4), -2);
        due("found(4, 2, 3, 8, 8, 0)", x.found(4, 2, 3, 8, 8, 0), SQUARE);
        due("found(4, 2, 3, 8, 8, 1)", x.found(4, 2, 3, 8, 8, 1), -2);
        due("found(4, 2, 3, 9, 9, 0)", x.found(4, 2, 3, 9, 9, 0), -2);
        for (int n = 1; n <= 7; n++) {
            for (int kind = 0; kind < 3; kind++) {
                int last = SIZES[kind][n - 1] - 1;
                due("the last of " + n, x.found(n, kind, 0, n, n, last), x.listed(n, kind, last));
                due("behind the last of " + n, x.found(n, kind, 0, n, n, last + 1), -2);
                due("far behind the last of " + n, x.found(n, kind, 0, LEAST, GREATEST, GREATEST), -2);
            }
        }
        unchanged("found, not so many", () -> laden(T), -2, y -> y.found(4, 2, 3, 10, 10, 4));
    }

    private static void foundRefused() {
        says(16, "NONE: no such ones");
        unchanged("k -1", () -> laden(T), NONE, x -> x.found(4, 2, 3, 10, 10, -1));
        unchanged("k -1 of none", () -> laden(T), NONE, x -> x.found(4, 2, 3, 9, 9, -1));
        unchanged("k least", () -> laden(T), NONE, x -> x.found(4, 2, 3, 10, 10, LEAST));
        for (int[] a : new int[][] {{0, 0, 0}, {8, 0, 0}, {1, -1, 0}, {1, 3, 0}, {1, 0, -1}, {1, 0, 15}}) {
            unchanged("NONE first, k too great", () -> laden(T), NONE, x -> x.found(a[0], a[1], a[2], 0, 9, GREATEST));
        }
        unchanged("NONE first, high below low, k too great", () -> laden(T), NONE, x -> x.found(4, 2, 3, 1, 0, GREATEST));
    }

    private static void crowd() {
        says(17, "the greatest such crowd (most true), how many unlike ones there are (false)");
        for (int what = 0; what < 15; what++) {
            for (int kind = 0; kind < 3; kind++) {
                CellFigures x = new CellFigures();
                Model model = new Model();
                due("crowd(1, " + kind + ", " + what + ", true)", x.crowd(1, kind, what, true), 1);
                due("crowd(1, " + kind + ", " + what + ", false)", x.crowd(1, kind, what, false), 1);
                due("crowd(7, " + kind + ", " + what + ", true)", x.crowd(7, kind, what, true), model.crowd(7, kind, what, true));
                due("crowd(7, " + kind + ", " + what + ", false)", x.crowd(7, kind, what, false), model.crowd(7, kind, what, false));
            }
        }
        due("widths of four", new CellFigures().crowd(4, 0, 1, false), 4);
        due("widths of seven", new CellFigures().crowd(7, 0, 1, false), 7);
        due("all of a size have as many CELLS", new CellFigures().crowd(7, 0, 0, true), 760);
        says(17, "NONE: no such ones");
        for (int[] a : new int[][] {{0, 0, 0}, {8, 0, 0}, {1, -1, 0}, {1, 3, 0}, {1, 0, -1}, {1, 0, 15}}) {
            unchanged("crowd, no such ones", () -> laden(T), NONE, x -> x.crowd(a[0], a[1], a[2], true));
            unchanged("crowd, no such ones", () -> laden(T), NONE, x -> x.crowd(a[0], a[1], a[2], false));
        }
    }

    private static void grown() {
        says(18, "GROWN: with one CELL more (12 at most, within 7 by 7)");
        for (int kind = 0; kind < 3; kind++) {
            int of = kind;
            unchanged("of twelve", () -> laden(THREE_BY_FOUR), 0, x -> x.kin(0, of, true));
            unchanged("of twelve, thin", () -> laden(CORNER_12), 0, x -> x.kin(0, of, true));
        }
        // Of eleven: seven above, six below, three beside the four and one below them; none to the left or right.
        due("of eleven", with(CORNER_11).kin(0, 0, true), 17);
        due("of six across", with(BAR_6).kin(0, 0, true), 13);
        due("of seven across, none at its ends", with(BAR_7).kin(0, 0, true), 14);
        due("of seven across, free", with(BAR_7).kin(0, 2, true), 4);
        due("of seven down, none at its ends", with(PILLAR_7).kin(0, 0, true), 14);
        due("of seven down, one-sided", with(PILLAR_7).kin(0, 1, true), 7);
        due("of one", with(ONE).kin(0, 0, true), 2);
        due("of one, one-sided", with(ONE).kin(0, 1, true), 1);
        due("in a hole, too", with(RING).kin(0, 0, true), 13);
        long[] edges = {CORNER_11, BAR_7 | 65 << 8, PILLAR_7 | 2 | 2L << 48, HOOK, 64 | BAR_7 << 8 | 1 << 16, BAR_6, PILLAR_7};
        for (long number : edges) {
            for (int kind = 0; kind < 3; kind++) {
                Model model = new Model();
                model.put(0, number);
                due(number + ": kin(0, " + kind + ", true)", with(number).kin(0, kind, true), model.kin(0, kind, true));
            }
        }
    }

    private static void shrunk() {
        says(18, "SHRUNK: with one that is no CUT CELL less (one at least stays)");
        for (int kind = 0; kind < 3; kind++) {
            int of = kind;
            unchanged("of one", () -> laden(ONE), 0, x -> x.kin(0, of, false));
            unchanged("of two", () -> laden(TWO_DOWN), 1, x -> x.kin(0, of, false));
            unchanged("of three in a row", () -> laden(BAR_3), 1, x -> x.kin(0, of, false));
            unchanged("of three round a corner", () -> laden(ANGLE), kind == 0 ? 2 : 1, x -> x.kin(0, of, false));
            unchanged("of a ring", () -> laden(RING), new int[] {8, 2, 2}[kind], x -> x.kin(0, of, false));
            unchanged("of twelve, thin", () -> laden(CORNER_12), 2, x -> x.kin(0, of, false));
        }
        due("the one of two", with(TWO_DOWN).kinAt(0, 0, false, 0), ONE);
    }

    private static void kinRefused() {
        says(18, "-2: empty; NONE: no such ones");
        for (boolean more : new boolean[] {true, false}) {
            unchanged("kin(1, 0, ..)", () -> laden(T), -2, x -> x.kin(1, 0, more));
            unchanged("kin(1, 3, ..), NONE first", () -> laden(T), NONE, x -> x.kin(1, 3, more));
            unchanged("kin(1, -1, ..), NONE first", () -> laden(T), NONE, x -> x.kin(1, -1, more));
        }
    }

    private static void kinAt() {
        says(19, "The NUMBER of the k-th of these; -2: empty; -3: not so many; NONE: no such ones (k below 0)");
        for (long number : new long[] {ONE, TWO_ACROSS, ANGLE, T, BAR_7, PILLAR_7, RING, CORNER_11, CORNER_12, THREE_BY_FOUR}) {
            for (int i = 0; i < 6; i++) {
                CellFigures x = with(number);
                Model model = new Model();
                model.put(0, number);
                int kind = i % 3;
                boolean more = i < 3;
                int many = model.kin(0, kind, more);
                String call = number + ": kinAt(0, " + kind + ", " + more + ", ";
                for (int k = 0; k < many; k++) due(call + k + ")", x.kinAt(0, kind, more, k), model.kinAt(0, kind, more, k));
                due(call + many + ")", x.kinAt(0, kind, more, many), -3);
                due(call + "greatest)", x.kinAt(0, kind, more, GREATEST), -3);
                due(call + "-1)", x.kinAt(0, kind, more, -1), NONE);
                due(call + "least)", x.kinAt(0, kind, more, LEAST), NONE);
            }
        }
        for (boolean more : new boolean[] {true, false}) {
            unchanged("not so many", () -> laden(T), -3, x -> x.kinAt(0, 0, more, 30));
            unchanged("-2 first, not so many", () -> laden(T), -2, x -> x.kinAt(1, 0, more, GREATEST));
            unchanged("NONE first, empty, k -1", () -> laden(T), NONE, x -> x.kinAt(1, 0, more, -1));
            unchanged("NONE first, kind 3, not so many", () -> laden(T), NONE, x -> x.kinAt(0, 3, more, GREATEST));
        }
        unchanged("grown of twelve", () -> laden(THREE_BY_FOUR), -3, x -> x.kinAt(0, 0, true, 0));
        unchanged("shrunk of one", () -> laden(ONE), -3, x -> x.kinAt(0, 0, false, 0));
    }

    private static void way() {
        says(20, "both of as many CELLS, 6 at most; -3: not of as many CELLS, more than 6");
        long block = 7 | 7 << 8;
        unchanged("of six", () -> laden(BAR_6, block), 3, x -> x.way(0, 1));
        unchanged("of six, back", () -> laden(block, BAR_6), 3, x -> x.way(0, 1));
        unchanged("of six, the same", () -> laden(block), 0, x -> x.way(0, 0));
        unchanged("of seven", () -> laden(BAR_7, PILLAR_7), -3, x -> x.way(0, 1));
        unchanged("of seven, the same", () -> laden(BAR_7), -3, x -> x.way(0, 0));
        unchanged("of twelve, the same", () -> laden(CORNER_12), -3, x -> x.way(0, 0));
        unchanged("of six and seven", () -> laden(BAR_6, BAR_7), -3, x -> x.way(0, 1));
        unchanged("of seven and six", () -> laden(BAR_7, BAR_6), -3, x -> x.way(0, 1));
        unchanged("of one and two", () -> laden(ONE, TWO_ACROSS), -3, x -> x.way(0, 1));
        unchanged("of six and five", () -> laden(BAR_6, U), -3, x -> x.way(0, 1));
        unchanged("of one", () -> laden(ONE, ONE), 0, x -> x.way(0, 1));
        unchanged("of two, turned", () -> laden(TWO_ACROSS, TWO_DOWN), 0, x -> x.way(0, 1));
        unchanged("of three", () -> laden(BAR_3, ANGLE), 1, x -> x.way(0, 1));
        says(20, "what is there between need not hang together");
        // The corner of V goes to the other side of its bend: W is there, between the two there were two parts.
        long v = 7 | 1 << 8 | 1 << 16;
        long w = 6 | 3 << 8 | 1 << 16;
        unchanged("from V to W", () -> laden(v, w), 1, x -> x.way(0, 1));
        unchanged("from W to V", () -> laden(v, w), 1, x -> x.way(1, 0));
        says(20, "-2: one is empty; NONE: no such ones");
        unchanged("way(0, 1)", () -> laden(T), -2, x -> x.way(0, 1));
        unchanged("way(1, 0)", () -> laden(T), -2, x -> x.way(1, 0));
        unchanged("way(1, 1)", () -> laden(T), -2, x -> x.way(1, 1));
        unchanged("-2 first, of seven", () -> laden(BAR_7), -2, x -> x.way(0, 1));
        unchanged("NONE first, way(1, 8)", () -> laden(BAR_7), NONE, x -> x.way(1, 8));
        unchanged("NONE first, way(-1, 0)", () -> laden(BAR_7), NONE, x -> x.way(-1, 0));
        everyWay();
    }

    /** All ways of six cells from the first, the last and one between. */
    private static void everyWay() {
        says(20, "WAY: the fewest STEPS");
        Model model = new Model();
        for (int from : new int[] {0, 17, 34}) {
            CellFigures x = new CellFigures();
            x.put(0, x.listed(6, 2, from));
            model.put(0, x.number(0, 0));
            for (int to = 0; to < 35; to++) {
                x.put(1, x.listed(6, 2, to));
                model.put(1, x.number(1, 0));
                due("way from " + from + " to " + to, x.way(0, 1), model.way(0, 1));
            }
        }
    }

    private static void farthest() {
        says(21, "The most STEPS (far true), how many FREE ones are so far (false)");
        long[] numbers = {ONE, TWO_DOWN, BAR_3, ANGLE, T, U, BAR_6};
        int[] most = {0, 0, 1, 1, 1, 2, 4};
        for (int i = 0; i < numbers.length; i++) {
            long number = numbers[i];
            Model model = new Model();
            model.put(0, number);
            unchanged(number + ": farthest(0, true)", () -> laden(number), most[i], x -> x.farthest(0, true));
            unchanged(number + ": farthest(0, false)", () -> laden(number), model.farthest(0, false), x -> x.farthest(0, false));
        }
        due("how many, of one", with(ONE).farthest(0, false), 1);
        due("how many, of two", with(TWO_DOWN).farthest(0, false), 1);
        due("how many, of three", with(BAR_3).farthest(0, false), 1);
        says(21, "-2: empty; -3: more than 6; NONE: no such one");
        for (boolean far : new boolean[] {true, false}) {
            unchanged("of seven", () -> laden(BAR_7), -3, x -> x.farthest(0, far));
            unchanged("of twelve", () -> laden(CORNER_12), -3, x -> x.farthest(0, far));
            unchanged("of an empty one", () -> laden(BAR_7), -2, x -> x.farthest(1, far));
            unchanged("farthest(8, ..)", () -> laden(BAR_7), NONE, x -> x.farthest(8, far));
            unchanged("farthest(-1, ..)", () -> laden(BAR_7), NONE, x -> x.farthest(-1, far));
        }
    }

    private static void drawnSeeds() {
        says(22, "X is the lowest 16 bits of the SEED at first");
        int[][] alike = {
            {0, 65536}, {0, LEAST}, {0, -65536}, {65535, -1}, {65535, GREATEST}, {1, 65537}, {32768, -32768}, {0x5678, 0x12345678}
        };
        for (int[] pair : alike) {
            due("seeds " + pair[0] + " and " + pair[1], with().drawn(0, pair[1], 12), with().drawn(0, pair[0], 12));
            due("seed " + pair[0], with().drawn(0, pair[0], 12), Model.numberOf(Model.lots(pair[0], 12)));
        }
        says(22, "n CELLS (1 to 12), into a DRAWER: its NUMBER");
        for (int n = 1; n <= 12; n++) {
            CellFigures x = laden(T, L);
            long number = x.drawn(0, 4711, n);
            due("CELLS of " + n, x.told(0, 0), n);
            due("number of " + n, number, Model.numberOf(Model.lots(4711, n)));
            dueText("drawn of " + n, seen(x), seen(laden(number, L)));
        }
        for (int seed : new int[] {0, -1, LEAST, GREATEST}) due("one CELL", with().drawn(7, seed, 1), ONE);
    }

    private static void drawnWithin() {
        says(22, "those alone by which it stays within 7 by 7");
        // By these seeds a draw falls on a place beyond the seventh column, or row, if such ones were counted.
        due("seed 3, seven wide", with().drawn(0, 3, 12), 1384063008L);
        due("seed 18, seven high", with().drawn(0, 18, 12), 1693265187571207L);
        int[] seeds = {3, 18, 40, 60, 85, 134};
        for (int seed : seeds) {
            CellFigures x = new CellFigures();
            due("seed " + seed, x.drawn(0, seed, 12), Model.numberOf(Model.lots(seed, 12)));
            due("width or height of seed " + seed, Math.max(x.told(0, 1), x.told(0, 2)), 7);
        }
    }

    private static void drawnRefused() {
        says(22, "NONE: no such ones");
        for (int n : new int[] {0, 13, -1, LEAST, GREATEST}) {
            unchanged("drawn(0, 1, " + n + ")", () -> laden(T), NONE, x -> x.drawn(0, 1, n));
            unchanged("drawn(1, 1, " + n + ")", () -> laden(T), NONE, x -> x.drawn(1, 1, n));
        }
        unchanged("drawn(8, 1, 1)", () -> laden(T), NONE, x -> x.drawn(8, 1, 1));
        unchanged("drawn(-1, 1, 12)", () -> laden(T), NONE, x -> x.drawn(-1, 1, 12));
    }
}

/**
 * Promises 23 to 28 read sentence by sentence: for each that names a boundary case the last that is still so and the
 * first that is not, and for each refused call that nothing changes.
 */
public final class LineEdgesTest extends TestBase {
    private static final int LEAST = Integer.MIN_VALUE;
    private static final int GREATEST = Integer.MAX_VALUE;

    private LineEdgesTest() {
    }

    public static void main(String[] args) {
        lineLetters();
        lineLength();
        noLine();
        lineRefused();
        tiles();
        emptyParts();
        tilesRefused();
        tilers();
        fillSizes();
        fillFigures();
        fillByEachTurn();
        fillMostFigures();
        fillOutside();
        fillTries();
        fillEmpty();
        vector();
        vectorRefused();
        owner();
        ownerEverywhere();
        ownerRefused();
        end("edges of lines");
    }

    private static void line(long number, String letters) {
        for (int i = 0; i < letters.length(); i++) {
            int at = i;
            unchanged(number + ": line(0, " + i + ")", () -> laden(number), letters.charAt(i) - '0', x -> x.line(0, at));
        }
        unchanged(number + ": line(0, " + letters.length() + ")", () -> laden(number), -4, x -> x.line(0, letters.length()));
    }

    private static void lineLetters() {
        says(23, "from the upper left point of the first CELL of row 0, to the right along its upper side");
        line(ONE, "0123");
        line(TWO_ACROSS, "001223");
        line(TWO_DOWN, "011233");
        // The first cell of row 0 lies at x 1, at x 6.
        line(2 | 3 << 8, "01122303");
        line(64 | BAR_7 << 8, "01122222223000000" + "3");
        says(23, "x and y 6 at most");
        line(BAR_7, "0000000122222223");
        line(PILLAR_7, "0111111123333333");
        line(CORNER_12, "00000001111112333332222223");
        // Two cells stand up at the ends of row 0, a bay between them.
        line(65 | BAR_7 << 8, "01000003011222222233");
    }

    private static void lineLength() {
        says(23, "THE LINE's letter i (0 on); -4: not so many; as many as SIDES");
        for (long number : new long[] {ONE, BAR_7, CORNER_12, THREE_BY_FOUR, HOOK, CROSS}) {
            CellFigures x = with(number);
            int sides = x.told(0, 3);
            due(number + ": the last letter", x.line(0, sides - 1) >= 0, true);
            due(number + ": the first letter", x.line(0, 0), 0);
            due(number + ": behind the last", x.line(0, sides), -4);
            due(number + ": far behind", x.line(0, GREATEST), -4);
        }
        // The last letter leads back to the begin: up, or to the left.
        due("the last of one", with(ONE).line(0, 3), 3);
        due("behind the longest", with(CORNER_12).line(0, 26), -4);
        due("behind the longest, of half more", with(CORNER_12).line(0, 39), -4);
    }

    private static void noLine() {
        says(23, "-3: it has none (HOLES, a point at which just two CELLS lie aslant)");
        for (long number : new long[] {RING, OPEN_RING, RING & ~1, RING & ~4, RING & ~(1 << 16)}) {
            unchanged(number + ": line(0, 0)", () -> laden(number), -3, x -> x.line(0, 0));
            unchanged(number + ": line(0, greatest), -3 first", () -> laden(number), -3, x -> x.line(0, GREATEST));
        }
        due("a ring open at a side has one", with(RING & ~2).line(0, 0), 0);
        due("a ring without its lowest row has one", with(7 | 5 << 8).line(0, 11), 3);
        CellFigures x = new CellFigures();
        due("two holes", read(x, 0, "###./#.##/##.#/.###"), 12);
        due("of two holes", x.line(0, 0), -3);
    }

    private static void lineRefused() {
        says(23, "-2: empty; NONE: no such ones (i below 0)");
        unchanged("line(1, 0)", () -> laden(T), -2, x -> x.line(1, 0));
        unchanged("line(1, greatest), -2 first", () -> laden(T), -2, x -> x.line(1, GREATEST));
        unchanged("line(0, -1)", () -> laden(T), NONE, x -> x.line(0, -1));
        unchanged("line(0, least)", () -> laden(T), NONE, x -> x.line(0, LEAST));
        unchanged("line(1, -1), NONE first", () -> laden(T), NONE, x -> x.line(1, -1));
        unchanged("of a ring, i -1, NONE first", () -> laden(RING), NONE, x -> x.line(0, -1));
        unchanged("line(8, 0)", () -> laden(T), NONE, x -> x.line(8, 0));
    }

    private static void tilesAll(long number, int... want) {
        for (int i = 0; i < 6; i++) {
            int what = i;
            unchanged(number + ": tiles(0, " + what + ")", () -> laden(number), want[what], x -> x.tiles(0, what));
        }
    }

    private static void tiles() {
        says(24, "A CUTTING: a place (below half of THE LINE's length) and the lengths of A, B (C is what is left of half)");
        tilesAll(ONE, 2, 2, 0, 1, 1, 0);
        // 001223: from 0 by 1 1 1 and 2 1 0, from 1 by 1 1 1, from 2 by 1 1 1 and 1 2 0; from 3 on they are the same.
        tilesAll(TWO_ACROSS, 5, 2, 0, 1, 1, 1);
        tilesAll(TWO_DOWN, 5, 2, 0, 1, 1, 1);
        tilesAll(T, 3, 0, 1, 1, 2, 2);
        for (long number : new long[] {BAR_7, PILLAR_7, CORNER_12, THREE_BY_FOUR, HOOK, SQUARE, CROSS, L}) {
            Model model = new Model();
            model.put(0, number);
            for (int what = 0; what < 6; what++) {
                due(number + ": tiles(0, " + what + ")", with(number).tiles(0, what), model.tiles(0, what));
            }
        }
    }

    private static void emptyParts() {
        says(24, "one of the three may be empty (no two); C may be 0, A and B may not");
        for (int k = 0; k < 35; k++) {
            CellFigures x = new CellFigures();
            x.put(0, x.listed(6, 2, k));
            int all = x.tiles(0, 0);
            due("A of " + k, all > 0 ? x.tiles(0, 3) > 0 : x.tiles(0, 3) == -4, true);
            due("B of " + k, all > 0 ? x.tiles(0, 4) > 0 : x.tiles(0, 4) == -4, true);
            int half = x.told(0, 3) / 2;
            if (all > 0) {
                due("A, B and C of " + k, x.tiles(0, 3) + x.tiles(0, 4) + x.tiles(0, 5), half);
                due("the place of " + k, x.tiles(0, 2) < half, true);
                due("those with C empty of " + k, x.tiles(0, 1) <= all, true);
            }
        }
        says(24, "CUTTINGS by which it TILES, 1 those with C empty");
        // 010121232303: from 0, 1, 3 and 4 by 3 3 0.
        tilesAll(CROSS, 4, 4, 0, 3, 3, 0);
    }

    private static void tilesRefused() {
        says(24, "what 0 how many, 1 those with C empty, 2, 3, 4, 5 of the first one (-4: none); -3: it has no LINE");
        tilesAll(U, 0, 0, -4, -4, -4, -4);
        tilesAll(RING, -3, -3, -3, -3, -3, -3);
        tilesAll(OPEN_RING, -3, -3, -3, -3, -3, -3);
        says(24, "-2: empty; NONE: no such ones");
        for (int i = 0; i < 6; i++) {
            int what = i;
            unchanged("tiles(1, " + what + ")", () -> laden(T), -2, x -> x.tiles(1, what));
        }
        for (int what : new int[] {-1, 6, LEAST, GREATEST}) {
            unchanged("tiles(0, " + what + ")", () -> laden(T), NONE, x -> x.tiles(0, what));
            unchanged("NONE first, empty", () -> laden(T), NONE, x -> x.tiles(1, what));
            unchanged("NONE first, no LINE", () -> laden(RING), NONE, x -> x.tiles(0, what));
            unchanged("NONE first, no CUTTING", () -> laden(U), NONE, x -> x.tiles(0, what));
        }
    }

    private static void tilers() {
        says(25, "How many of a LIST TILE by moves alone");
        int[] free = {1, 1, 2, 5, 9, 24, 41};
        Model model = new Model();
        for (int n = 1; n <= 7; n++) {
            int size = n;
            unchanged("tilers(" + n + ", 2)", () -> laden(T), free[n - 1], x -> x.tilers(size, 2));
            unchanged("tilers(" + n + ", 0)", () -> laden(T), model.tilers(n, 0), x -> x.tilers(size, 0));
            unchanged("tilers(" + n + ", 1)", () -> laden(T), model.tilers(n, 1), x -> x.tilers(size, 1));
        }
        says(25, "NONE: no such ones");
        for (int[] a : new int[][] {{0, 0}, {8, 0}, {LEAST, 0}, {GREATEST, 0}, {1, -1}, {1, 3}, {7, 3}}) {
            unchanged("tilers(" + a[0] + ", " + a[1] + ")", () -> laden(T), NONE, x -> x.tilers(a[0], a[1]));
        }
    }

    // ---- rectangles

    private static void filled(int want, int w, int h, int some, boolean turned, long... numbers) {
        String call = "fill(" + w + ", " + h + ", " + some + ", " + turned + ")";
        unchanged(call, () -> laden(numbers), want, x -> x.fill(w, h, some, turned));
    }

    private static void fillSizes() {
        says(26, "A RECTANGLE (w by h, 1 to 6 each)");
        filled(1, 1, 1, 1, false, ONE);
        filled(1, 6, 6, 1, false, ONE);
        filled(1, 6, 1, 1, false, ONE);
        filled(1, 1, 6, 1, false, ONE);
        filled(1, 6, 1, 1, false, BAR_6);
        filled(0, 1, 6, 1, false, BAR_6);
        filled(1, 1, 6, 1, true, BAR_6);
        filled(1, 6, 6, 1, false, BAR_6);
        filled(2, 6, 6, 1, true, BAR_6);
        filled(0, 5, 6, 1, false, BAR_6);
        for (int[] a : new int[][] {{0, 1}, {1, 0}, {7, 1}, {1, 7}, {-1, 1}, {1, -1}, {LEAST, 6}, {6, GREATEST}}) {
            filled(NONE, a[0], a[1], 1, false, ONE);
            filled(NONE, a[0], a[1], 1, true, ONE);
        }
        says(26, "DRAWERS (bits, 1 to 255)");
        filled(NONE, 1, 1, 0, false, ONE);
        filled(NONE, 1, 1, 256, false, ONE);
        filled(NONE, 1, 1, 257, false, ONE);
        filled(NONE, 1, 1, -1, false, ONE);
        filled(NONE, 1, 1, LEAST, false, ONE);
        filled(1, 1, 1, 128, false, 0, 0, 0, 0, 0, 0, 0, ONE);
        filled(1, 1, 1, 255, true, ONE, TWO_ACROSS, T, L, RING, U, BAR_7, SQUARE);
        filled(5, 2, 4, 255, false, TWO_ACROSS, TWO_DOWN, RING, U, TWO_ACROSS, TWO_DOWN, BAR_7, TWO_DOWN);
    }

    private static void fillFigures() {
        says(26, "each unlike FIGURE counts once though it be in two DRAWERS, or come by two TURNS");
        filled(1, 2, 2, 3, false, TWO_ACROSS, TWO_ACROSS);
        filled(2, 2, 2, 3, false, TWO_ACROSS, TWO_DOWN);
        filled(2, 2, 2, 1, true, TWO_ACROSS);
        filled(2, 2, 2, 3, true, TWO_ACROSS, TWO_DOWN);
        filled(1, 2, 2, 1, true, SQUARE);
        filled(1, 1, 1, 255, true, ONE, ONE, ONE, ONE, ONE, ONE, ONE, ONE);
        says(26, "each of its places is in just one of any number of moved ones");
        filled(0, 1, 1, 1, true, TWO_ACROSS);
        filled(0, 3, 3, 1, true, TWO_ACROSS);
        filled(0, 2, 2, 1, true, ANGLE);
        filled(5, 2, 2, 3, true, ANGLE, ONE);
        filled(0, 3, 3, 1, false, RING);
        filled(2, 3, 3, 3, false, RING, ONE, T);
        filled(1, 4, 3, 1, false, THREE_BY_FOUR);
        filled(0, 3, 4, 1, false, THREE_BY_FOUR);
        filled(1, 6, 4, 1, true, 7 | 7 << 8);
    }

    private static void fillByEachTurn() {
        says(26, "in all TURNS");
        // A square and one more at it: all eight turns are unlike, and go in wherever it is begun from.
        long p = 3 | 3 << 8 | 1 << 16;
        for (int t = 0; t < 8; t++) {
            long turned = with(p).turn(0, t);
            filled(2, 2, 5, 1, true, turned);
            filled(2, 5, 2, 1, true, turned);
            filled(6, 4, 5, 1, true, turned);
            filled(0, 2, 5, 1, false, turned);
        }
    }

    private static void fillMostFigures() {
        says(26, "DRAWERS (bits, 1 to 255), in all TURNS: 64 unlike FIGURES at most");
        // The last turn of the last drawer has the greatest number, and is in some of these ways.
        filled(4, 2, 6, 255, true, 66318, 66823, 67333, 783, 131599, 1805, 131854, 7952);
        filled(8, 3, 6, 255, true, 775, 67331, 69380, 783, 1295, 66823, 134659, 985096);
        filled(4, 2, 6, 255, true, 7952, 66318, 66823, 67333, 783, 131599, 1805, 131854);
        filled(0, 1, 1, 255, true, 66318, 66823, 67333, 783, 131599, 287, 1805, 131854);
    }

    private static void fillOutside() {
        says(26, "nothing lies beyond the RECTANGLE");
        filled(0, 6, 6, 1, true, BAR_7);
        filled(0, 6, 6, 1, true, PILLAR_7);
        // The first cell is not at x 0: it may not reach to the left of the rectangle.
        filled(0, 6, 6, 1, false, 2 | 3 << 8);
        filled(0, 3, 2, 1, false, 6 | 3 << 8);
        filled(2, 3, 2, 7, false, 2 | 7 << 8, ONE, RING);
        filled(2, 2, 2, 3, false, 2 | 3 << 8, ONE);
        filled(2, 6, 6, 3, true, BAR_6, BAR_7);
    }

    private static void fillTries() {
        says(26, "-3: more than 20000 TRIES");
        filled(1064, 5, 4, 15, false, 1, 131855, 65793, 16843009);
        filled(-3, 3, 6, 7, false, 1, 257, 33752580);
        filled(702, 4, 4, 7, true, TWO_ACROSS, ANGLE, SQUARE);
        filled(-3, 6, 6, 3, true, ONE, TWO_ACROSS);
        filled(-3, 6, 6, 255, true, ONE, TWO_ACROSS, T, L, RING, U, BAR_7, SQUARE);
        // A refused search leaves nothing behind for the next one.
        CellFigures x = with(ONE, TWO_ACROSS);
        due("too many", x.fill(6, 6, 3, true), -3);
        due("then few", x.fill(2, 2, 3, true), 7);
        due("then none", x.fill(1, 1, 2, true), 0);
        tryByTry();
    }

    /** Twos and angles in every rectangle: where it is too many tries is as Model says. */
    private static void tryByTry() {
        for (int w = 1; w <= 6; w++) {
            for (int h = 1; h <= 6; h++) {
                for (int some = 1; some <= 3; some++) {
                    Model model = new Model();
                    model.put(0, TWO_DOWN);
                    model.put(1, ANGLE);
                    due("fill(" + w + ", " + h + ", " + some + ", true)", with(TWO_DOWN, ANGLE).fill(w, h, some, true),
                        model.fill(w, h, some, true));
                }
            }
        }
    }

    private static void fillEmpty() {
        says(26, "-2: one is empty");
        filled(-2, 1, 1, 2, false, ONE);
        filled(-2, 1, 1, 3, false, ONE);
        filled(-2, 1, 1, 129, true, ONE);
        filled(-2, 1, 1, 255, true, ONE);
        filled(1, 1, 1, 1, true, ONE);
        // That it would be too many tries comes behind, what is no rectangle ahead.
        filled(-2, 6, 6, 7, true, ONE, TWO_ACROSS);
        filled(NONE, 7, 6, 7, true, ONE, TWO_ACROSS);
        filled(NONE, 6, 0, 7, true, ONE, TWO_ACROSS);
        filled(NONE, 6, 6, 256 + 4, true, ONE, TWO_ACROSS);
    }

    // ---- moves

    private static void vectorAll(long number, int... want) {
        for (int i = 0; i < 5; i++) {
            int what = i;
            unchanged(number + ": vector(0, " + what + ")", () -> laden(number), want[what], x -> x.vector(0, what));
        }
    }

    private static void vector() {
        says(27, "0, 1: x, y (10 more than they are) of the move by A and B, 2, 3: by B and C, 4: without sign");
        // A is right, B is down, C is empty: B and C together are down.
        vectorAll(ONE, 11, 11, 10, 11, 1);
        // A is right, B is right, C is down.
        vectorAll(TWO_ACROSS, 12, 10, 11, 11, 2);
        vectorAll(T, 12, 11, 10, 12, 4);
        for (long number : new long[] {BAR_7, PILLAR_7, CORNER_12, THREE_BY_FOUR, CROSS, L}) {
            Model model = new Model();
            model.put(0, number);
            for (int what = 0; what < 5; what++) {
                due(number + ": vector(0, " + what + ")", with(number).vector(0, what), model.vector(0, what));
            }
            due(number + ": as many places as CELLS", with(number).vector(0, 4), Long.bitCount(number));
        }
    }

    private static void vectorRefused() {
        says(27, "-2: empty; -3: it has no LINE; -4: there is none; NONE: no such ones");
        vectorAll(U, -4, -4, -4, -4, -4);
        vectorAll(RING, -3, -3, -3, -3, -3);
        vectorAll(OPEN_RING, -3, -3, -3, -3, -3);
        for (int i = 0; i < 5; i++) {
            int what = i;
            unchanged("vector(1, " + what + ")", () -> laden(T), -2, x -> x.vector(1, what));
        }
        for (int what : new int[] {-1, 5, LEAST, GREATEST}) {
            unchanged("vector(0, " + what + ")", () -> laden(T), NONE, x -> x.vector(0, what));
            unchanged("NONE first, empty", () -> laden(T), NONE, x -> x.vector(1, what));
            unchanged("NONE first, no LINE", () -> laden(RING), NONE, x -> x.vector(0, what));
            unchanged("NONE first, no CUTTING", () -> laden(U), NONE, x -> x.vector(0, what));
        }
    }

    private static void owner() {
        says(28, "of the copy that has (x, y) (-20 to 20 both), how often by the first move (100 more than it is)");
        // One cell, by (1, 1) and (0, 1): (x, y) is x times by the first, y less x times by the second.
        for (int px : new int[] {-20, -1, 0, 1, 20}) {
            for (int py : new int[] {-20, -1, 0, 1, 20}) {
                String call = "owner(0, " + px + ", " + py + ", ";
                unchanged(call + "0)", () -> laden(ONE), 100 + px, x -> x.owner(0, px, py, 0));
                unchanged(call + "1)", () -> laden(ONE), 100 + py - px, x -> x.owner(0, px, py, 1));
                unchanged(call + "2)", () -> laden(ONE), 0, x -> x.owner(0, px, py, 2));
            }
        }
        says(28, "2 the bit (8 y + x) of the CELL that is there");
        for (long number : new long[] {T, BAR_7, PILLAR_7, CORNER_12, THREE_BY_FOUR}) {
            for (int bit = 0; bit < 56; bit++) {
                if ((number >> bit & 1) == 0) continue;
                CellFigures x = with(number);
                due(number + ": the copy of CELL " + bit, x.owner(0, bit % 8, bit / 8, 0), 100);
                due(number + ": the copy of CELL " + bit, x.owner(0, bit % 8, bit / 8, 1), 100);
                due(number + ": the CELL " + bit, x.owner(0, bit % 8, bit / 8, 2), bit);
            }
        }
    }

    private static void ownerEverywhere() {
        says(28, "copies of the FIGURE are on all places");
        for (long number : new long[] {T, L, CROSS, BAR_7, PILLAR_7, CORNER_12, SQUARE}) {
            CellFigures moves = with(number);
            int firstX = moves.vector(0, 0) - 10;
            int firstY = moves.vector(0, 1) - 10;
            int secondX = moves.vector(0, 2) - 10;
            int secondY = moves.vector(0, 3) - 10;
            for (int px = -20; px <= 20; px += 4) {
                for (int py = -20; py <= 20; py += 5) {
                    CellFigures x = with(number);
                    int first = x.owner(0, px, py, 0) - 100;
                    int second = x.owner(0, px, py, 1) - 100;
                    int bit = x.owner(0, px, py, 2);
                    due("x of the copy", first * firstX + second * secondX + bit % 8, px);
                    due("y of the copy", first * firstY + second * secondY + bit / 8, py);
                    due("a CELL of the FIGURE", number >> bit & 1, 1);
                }
            }
        }
    }

    private static void ownerRefused() {
        says(28, "-2, -3, -4 as vector(); NONE: no such ones");
        for (int i = 0; i < 3; i++) {
            int what = i;
            unchanged("owner(1, 20, -20, " + what + ")", () -> laden(T), -2, x -> x.owner(1, 20, -20, what));
            unchanged("no LINE", () -> laden(RING), -3, x -> x.owner(0, 0, 0, what));
            unchanged("no CUTTING", () -> laden(U), -4, x -> x.owner(0, 0, 0, what));
        }
        int[][] none = {{21, 0, 0}, {-21, 0, 0}, {0, 21, 0}, {0, -21, 0}, {0, 0, 3}, {0, 0, -1}, {LEAST, 0, 0}, {0, GREATEST, 0}};
        for (int[] a : none) {
            unchanged("no such ones", () -> laden(T), NONE, x -> x.owner(0, a[0], a[1], a[2]));
            unchanged("NONE first, empty", () -> laden(T), NONE, x -> x.owner(1, a[0], a[1], a[2]));
            unchanged("NONE first, no LINE", () -> laden(RING), NONE, x -> x.owner(0, a[0], a[1], a[2]));
            unchanged("NONE first, no CUTTING", () -> laden(U), NONE, x -> x.owner(0, a[0], a[1], a[2]));
        }
    }
}

/**
 * Promises 29 to 38 read sentence by sentence: for each that names a boundary case the last that is still so and the
 * first that is not, and for each refused call that nothing changes.
 */
public final class PartEdgesTest extends TestBase {
    private static final int LEAST = Integer.MIN_VALUE;
    private static final int GREATEST = Integer.MAX_VALUE;
    private static final long PILLAR_6 = PILLAR_7 >> 8;

    private PartEdgesTest() {
    }

    public static void main(String[] args) {
        partOfFew();
        partOfTwelve();
        partHalves();
        partOneByOne();
        partRefused();
        inside();
        insideByEachTurn();
        insideRefused();
        common();
        commonRefused();
        keep();
        back();
        backInOrder();
        joinToTheRim();
        joinCells();
        joinTogether();
        joinLess();
        joinEverywhere();
        joinRefused();
        swap();
        share();
        shareRefused();
        touchAtTheRim();
        touchNear();
        touchRefused();
        count();
        lastCalls();
        end("edges of parts");
    }

    private static void partAll(long number, long... want) {
        for (int i = 0; i < 8; i++) {
            int what = i;
            unchanged(number + ": part(0, " + what + ")", () -> laden(number), want[what], x -> x.part(0, what));
        }
    }

    private static void partOfFew() {
        says(29, "6 how many sets of twos, one fewer than CELLS (of one CELL: 1)");
        partAll(ONE, 1, 0, 0, 0, 0, 0, 1, 1);
        partAll(TWO_ACROSS, 2, 1, 1, 1, 1, 1, 1, 0);
        partAll(TWO_DOWN, 2, 1, 1, 1, 1, 1, 1, 0);
        partAll(BAR_3, 4, 0, 0, 0, 0, 2, 1, 1);
        partAll(SQUARE, 16, 2, 2, 2, 2, 2, 4, 0);
        says(29, "7 how many more CELLS of x and y even together than odd, without sign");
        due("two more even", with(T).part(0, 7), 2);
        due("three more odd", with(CROSS).part(0, 7), 3);
        due("as many", with(BAR_4).part(0, 7), 0);
        due("two more odd", with(2 | 7 << 8).part(0, 7), 2);
    }

    private static void partOfTwelve() {
        says(29, "12 CELLS at most");
        // A row of twelve round a corner: each order is one of both ends, eleven times.
        partAll(CORNER_12, 2048, 1, 0, 1, 1, 11, 1, 0);
        due("twos of three by four", with(THREE_BY_FOUR).part(0, 1), 11);
        due("steps of three by four", with(THREE_BY_FOUR).part(0, 5), 5);
        due("sets of three by four", with(THREE_BY_FOUR).part(0, 6), 2415);
        long twoBySix = 63 | 63 << 8;
        due("twos of two by six", with(twoBySix).part(0, 1), 13);
        due("sets of two by six", with(twoBySix).part(0, 6), 780);
        for (long number : new long[] {THREE_BY_FOUR, twoBySix, HOOK, RING, 0x0707 | 7L << 16 | 7L << 24, PILLAR_7 | 62L << 48}) {
            Model model = new Model();
            model.put(0, number);
            for (int what = 0; what < 8; what++) {
                due(number + ": part(0, " + what + ")", with(number).part(0, what), model.part(0, what));
            }
        }
        says(29, "x and y 6 at most");
        partAll(BAR_7, 64, 0, 0, 0, 0, 6, 1, 1);
        partAll(PILLAR_7, 64, 0, 0, 0, 0, 6, 1, 1);
        // The end of a row and the begin of the next are no two.
        partAll(64 | BAR_7 << 8 | 1 << 16, 256, 0, 0, 0, 0, 8, 1, 1);
    }

    private static void partHalves() {
        says(29, "in how many ways it is two FIGURES that are one by FIXED, ONE-SIDED, FREE (which is which does not count)");
        partAll(T, 12, 0, 0, 0, 0, 2, 1, 2);
        partAll(L, 8, 1, 0, 1, 1, 3, 1, 0);
        partAll(BAR_6, 32, 1, 1, 1, 1, 5, 1, 0);
        // An L and its mirror image: one by FREE alone.
        partAll(63 | 33 << 8, 128, 1, 0, 0, 1, 7, 1, 0);
        // No cell at 0, 0: two twos across.
        partAll(774, 8, 1, 1, 1, 1, 3, 1, 0);
    }

    /** Large and small figures by turns on one object: nothing of the one is left when the next is asked for. */
    private static void partOneByOne() {
        says(29, "Of a DRAWER's FIGURE");
        long[] numbers = {THREE_BY_FOUR, ONE, CORNER_12, SQUARE, RING, TWO_DOWN, 774, T};
        CellFigures x = with(numbers);
        Model model = new Model();
        for (int d = 0; d < 8; d++) model.put(d, numbers[d]);
        for (int i = 0; i < 192; i++) {
            int d = i * 5 % 8;
            int what = i * 3 / 8 % 8;
            due("part(" + d + ", " + what + ")", x.part(d, what), model.part(d, what));
            due("line(" + d + ", " + what + ")", x.line(d, what), model.line(d, what));
        }
    }

    private static void partRefused() {
        says(29, "-2: empty; NONE: no such ones");
        for (int i = 0; i < 8; i++) {
            int what = i;
            unchanged("part(1, " + what + ")", () -> laden(T), -2, x -> x.part(1, what));
        }
        for (int what : new int[] {-1, 8, LEAST, GREATEST}) {
            unchanged("part(0, " + what + ")", () -> laden(T), NONE, x -> x.part(0, what));
            unchanged("part(1, " + what + "), NONE first", () -> laden(T), NONE, x -> x.part(1, what));
        }
    }

    private static void lies(long first, long second, int asItIs, int turned) {
        unchanged(first + " inside " + second, () -> laden(first, second), asItIs, x -> x.inside(0, 1, false));
        unchanged(first + " inside " + second + " turned", () -> laden(first, second), turned, x -> x.inside(0, 1, true));
    }

    private static void inside() {
        says(30, "In how many ways the first lies in the second, moved as it is, or in all TURNS (unlike by CELLS)");
        lies(ONE, ONE, 1, 1);
        lies(ONE, CORNER_12, 12, 12);
        lies(TWO_ACROSS, ONE, 0, 0);
        lies(TWO_ACROSS, THREE_BY_FOUR, 9, 17);
        lies(TWO_DOWN, THREE_BY_FOUR, 8, 17);
        lies(THREE_BY_FOUR, THREE_BY_FOUR, 1, 1);
        lies(THREE_BY_FOUR, 0x07070707L, 0, 1);
        lies(SQUARE, THREE_BY_FOUR, 6, 6);
        lies(RING, RING, 1, 1);
        lies(SQUARE, RING, 0, 0);
        lies(BAR_7, BAR_7, 1, 1);
        lies(BAR_7, PILLAR_7, 0, 1);
        lies(BAR_6, BAR_7, 2, 2);
        lies(BAR_7, BAR_6, 0, 0);
        lies(BAR_6, CORNER_12, 2, 3);
        lies(PILLAR_6, CORNER_12, 1, 3);
        lies(PILLAR_7, CORNER_12, 0, 1);
        // The end of a row and the begin of the next are not side by side.
        lies(TWO_ACROSS, 64 | BAR_7 << 8 | 1 << 16, 6, 8);
        lies(2 | 3 << 8 | 1 << 16, 64 | BAR_7 << 8 | 1 << 16, 0, 0);
    }

    private static void insideByEachTurn() {
        says(30, "in all TURNS");
        for (long number : new long[] {L, CORNER_12}) {
            for (int t = 0; t < 8; t++) {
                long turned = with(number).turn(0, t);
                lies(number, turned, t == 0 ? 1 : 0, 1);
                lies(turned, number, t == 0 ? 1 : 0, 1);
                shared(number, turned, Long.bitCount(number));
            }
        }
    }

    private static void insideRefused() {
        says(30, "-2: one is empty; NONE: no such ones");
        for (boolean turned : new boolean[] {true, false}) {
            unchanged("inside(0, 1, ..)", () -> laden(T), -2, x -> x.inside(0, 1, turned));
            unchanged("inside(1, 0, ..)", () -> laden(T), -2, x -> x.inside(1, 0, turned));
            unchanged("inside(1, 1, ..)", () -> laden(T), -2, x -> x.inside(1, 1, turned));
            unchanged("inside(1, 8, ..), NONE first", () -> laden(T), NONE, x -> x.inside(1, 8, turned));
            unchanged("inside(-1, 1, ..), NONE first", () -> laden(T), NONE, x -> x.inside(-1, 1, turned));
        }
    }

    private static void shared(long first, long second, int want) {
        unchanged("common of " + first + " and " + second, () -> laden(first, second), want, x -> x.common(0, 1));
        unchanged("common of " + second + " and " + first, () -> laden(second, first), want, x -> x.common(0, 1));
    }

    private static void common() {
        says(31, "The most CELLS of a part of the first that hangs together and lies so in the second, in some TURN");
        shared(ONE, ONE, 1);
        shared(ONE, CORNER_12, 1);
        shared(CORNER_12, CORNER_12, 12);
        shared(CORNER_12, PILLAR_7 | 63L, 12);
        shared(BAR_7, PILLAR_7, 7);
        shared(BAR_7, CORNER_12, 7);
        shared(PILLAR_6, CORNER_12, 6);
        shared(BAR_7, THREE_BY_FOUR, 4);
        shared(RING, SQUARE, 3);
        shared(L, 1 | 7 << 8, 4);
        // Two pieces of the ring would lie on the ends of the row, too.
        shared(RING, BAR_4, 3);
        shared(BAR_7 | 65 << 8, BAR_7, 7);
        shared(BAR_7 | 65 << 8, 5 | 7 << 8, 4);
        // Two parts are common, of which the one with the first cell is the smaller one.
        shared(33766928, 201792560, 6);
        shared(34612186116L, 139021, 7);
        for (int seed = 0; seed < 12; seed++) {
            Model model = new Model();
            CellFigures x = new CellFigures();
            model.put(0, x.drawn(0, 97 * seed, 9));
            model.put(1, x.drawn(1, 131 * seed + 5, 10));
            due("common by lots, " + seed, x.common(0, 1), model.common(0, 1));
        }
    }

    private static void commonRefused() {
        says(31, "-2: one is empty; NONE: no such ones");
        unchanged("common(0, 1)", () -> laden(T), -2, x -> x.common(0, 1));
        unchanged("common(1, 0)", () -> laden(T), -2, x -> x.common(1, 0));
        unchanged("common(1, 1)", () -> laden(T), -2, x -> x.common(1, 1));
        unchanged("common(1, 8), NONE first", () -> laden(T), NONE, x -> x.common(1, 8));
        unchanged("common(-1, 1), NONE first", () -> laden(T), NONE, x -> x.common(-1, 1));
    }

    // ---- kept drawers

    /** Kept ten times, each time with one more cell in drawer 7. */
    private static CellFigures keptTen() {
        CellFigures x = with(T, L);
        for (int i = 1; i <= 10; i++) {
            x.drawn(7, 5, i);
            due("keep()", x.keep(), i);
        }
        x.take(0);
        tape(x, "##");
        return x;
    }

    private static void keep() {
        says(32, "DRAWERS are kept as they are: how many times they are");
        CellFigures x = laden(T, 0, L);
        due("keep(), kept twice already", x.keep(), 3);
        due("number(0, 0)", x.number(0, 0), T);
        due("number(1, 0)", x.number(1, 0), -2);
        due("count(1)", x.count(1), 80);
        due("back()", x.back(), 2);
        dueText("keep() and back()", seen(x), seen(laden(T, 0, L)));
        says(32, "NONE: 10 times already");
        unchanged("an 11th keep()", PartEdgesTest::keptTen, NONE, y -> y.keep());
        unchanged("a 12th keep()", PartEdgesTest::keptTen, NONE, y -> Math.max(y.keep(), y.keep()));
        x = keptTen();
        due("back()", x.back(), 9);
        due("keep() again", x.keep(), 10);
        due("keep() beyond", x.keep(), NONE);
    }

    private static void back() {
        says(33, "NONE: they are not");
        unchanged("back() of a new one", () -> with(T, L), NONE, x -> x.back());
        unchanged("back() behind all", PartEdgesTest::backFully, NONE, x -> x.back());
        CellFigures x = with(T);
        due("keep()", x.keep(), 1);
        due("back()", x.back(), 0);
        due("back() again", x.back(), NONE);
        says(33, "DRAWERS are as they were kept last");
        x = with();
        due("keep(), all empty", x.keep(), 1);
        for (int d = 0; d < 8; d++) x.put(d, L);
        x.feed(0, 0, 0, 0, 0);
        due("back()", x.back(), 0);
        due("count(0)", x.count(0), 0);
        due("count(1), the tape is no DRAWER", x.count(1), 20);
        x = with(CORNER_12, ONE, T, L, RING, U, BAR_7, PILLAR_7);
        x.keep();
        for (int d = 0; d < 8; d++) x.take(d);
        due("back()", x.back(), 0);
        dueText("back() of all eight", seen(x), seen(with(CORNER_12, ONE, T, L, RING, U, BAR_7, PILLAR_7)));
    }

    private static CellFigures backFully() {
        CellFigures x = keptTen();
        for (int i = 9; i >= 0; i--) due("back()", x.back(), i);
        return x;
    }

    private static void backInOrder() {
        says(33, "(that is gone then): how many times they still are");
        CellFigures x = keptTen();
        for (int i = 10; i >= 1; i--) {
            x.put(0, SQUARE);
            x.take(1);
            due("back()", x.back(), i - 1);
            due("told(7, 0)", x.told(7, 0), i);
            due("number(0, 0)", x.number(0, 0), T);
            due("number(1, 0)", x.number(1, 0), L);
        }
        due("back()", x.back(), NONE);
        due("told(7, 0)", x.told(7, 0), 1);
        // What is kept anew stands where the gone one stood.
        x.put(7, SQUARE);
        x.keep();
        x.take(7);
        x.back();
        due("number(7, 0)", x.number(7, 0), SQUARE);
    }

    // ---- join

    private static void joined(long first, long second, int u, int v, boolean more, long then) {
        String call = first + " and " + second + ": join(0, 1, " + u + ", " + v + ", " + more + ")";
        CellFigures x = laden(first, second);
        due(call, x.join(0, 1, u, v, more), Long.bitCount(then));
        dueText(call, seen(x), seen(laden(then, second)));
    }

    private static void notJoined(long first, long second, int u, int v, boolean more) {
        String call = first + " and " + second + ": join(0, 1, " + u + ", " + v + ", " + more + ")";
        unchanged(call, () -> laden(first, second), -3, x -> x.join(0, 1, u, v, more));
    }

    private static void joinToTheRim() {
        says(34, "-3: it would be no FIGURE (x and y 6 at most)");
        joined(BAR_6, ONE, 6, 0, true, BAR_7);
        joined(BAR_6, ONE, -1, 0, true, BAR_7);
        notJoined(BAR_7, ONE, 7, 0, true);
        notJoined(BAR_7, ONE, -1, 0, true);
        joined(ONE, BAR_6, -6, 0, true, BAR_7);
        notJoined(ONE, BAR_7, -7, 0, true);
        notJoined(BAR_6, TWO_ACROSS, 6, 0, true);
        notJoined(BAR_6, TWO_ACROSS, -2, 0, true);
        joined(PILLAR_6, ONE, 0, 6, true, PILLAR_7);
        joined(PILLAR_6, ONE, 0, -1, true, PILLAR_7);
        notJoined(PILLAR_7, ONE, 0, 7, true);
        notJoined(PILLAR_7, ONE, 0, -1, true);
        joined(ONE, PILLAR_6, 0, -6, true, PILLAR_7);
        notJoined(ONE, PILLAR_7, 0, -7, true);
        notJoined(PILLAR_6, TWO_DOWN, 0, 6, true);
        notJoined(PILLAR_6, TWO_DOWN, 0, -2, true);
        // No cell of a cross lies in the corners of its box: moved by seven both ways it would be out of all sight.
        for (int[] m : new int[][] {{7, 7}, {-7, -7}, {7, -7}, {-7, 7}}) {
            notJoined(CROSS, ONE, m[0], m[1], true);
            notJoined(ONE, CROSS, m[0], m[1], true);
            notJoined(CROSS, CROSS, m[0], m[1], true);
        }
    }

    private static void joinCells() {
        says(34, "-3: it would be no FIGURE (1 to 12 CELLS)");
        joined(BAR_6, BAR_6, 0, 1, true, 63 | 63 << 8);
        joined(BAR_6, BAR_6, 0, -1, true, 63 | 63 << 8);
        joined(BAR_6, BAR_6, -1, 1, true, 126 | 63 << 8);
        notJoined(BAR_7, BAR_6, 0, 1, true);
        notJoined(BAR_6, BAR_7, 0, 1, true);
        notJoined(THREE_BY_FOUR, ONE, 4, 0, true);
        joined(THREE_BY_FOUR, SQUARE, 2, 1, true, THREE_BY_FOUR);
        notJoined(THREE_BY_FOUR, SQUARE, 3, 1, true);
        joined(BAR_7, PILLAR_6, 6, 0, true, CORNER_12);
        notJoined(BAR_7, PILLAR_7, 6, 0, true);
        says(34, "gets the CELLS of the second one, too: those of both count once");
        joined(CORNER_12, CORNER_12, 0, 0, true, CORNER_12);
        joined(ONE, ONE, 0, 0, true, ONE);
        joined(TWO_ACROSS, TWO_ACROSS, 1, 0, true, BAR_3);
    }

    private static void joinTogether() {
        says(34, "-3: it would be no FIGURE (CELLS that hang together)");
        joined(ONE, ONE, 1, 0, true, TWO_ACROSS);
        joined(ONE, ONE, -1, 0, true, TWO_ACROSS);
        joined(ONE, ONE, 0, 1, true, TWO_DOWN);
        joined(ONE, ONE, 0, -1, true, TWO_DOWN);
        notJoined(ONE, ONE, 1, 1, true);
        notJoined(ONE, ONE, 1, -1, true);
        notJoined(ONE, ONE, -1, -1, true);
        notJoined(ONE, ONE, 2, 0, true);
        notJoined(ONE, ONE, 0, 2, true);
        notJoined(ONE, ONE, 6, -1, true);
        notJoined(ONE, ONE, 7, 7, true);
        notJoined(ONE, ONE, -7, -7, true);
        // The end of a row and the begin of the next are not side by side.
        notJoined(BAR_7, TWO_ACROSS, 0, 2, true);
        notJoined(ONE, ONE, -6, 1, true);
        says(34, "and is moved to 0, 0");
        joined(ANGLE, T, -3, 0, true, 31 | 10 << 8);
        joined(BAR_3, T, 0, -1, true, BAR_3 | BAR_3 << 8);
    }

    private static void joinLess() {
        says(34, "or those go from it (false)");
        joined(TWO_ACROSS, ONE, 0, 0, false, ONE);
        joined(TWO_ACROSS, ONE, 1, 0, false, ONE);
        joined(TWO_DOWN, ONE, 0, 0, false, ONE);
        notJoined(ONE, ONE, 0, 0, false);
        notJoined(THREE_BY_FOUR, THREE_BY_FOUR, 0, 0, false);
        notJoined(BAR_3, ONE, 1, 0, false);
        notJoined(BAR_3, BAR_7, -2, 0, false);
        joined(BAR_3, BAR_7, -5, 0, false, ONE);
        joined(BAR_3, BAR_7, 2, 0, false, TWO_ACROSS);
        joined(THREE_BY_FOUR, BAR_7, 0, 0, false, 0x0F0F);
        joined(THREE_BY_FOUR, BAR_7, -3, 2, false, 0x0F0F);
        joined(THREE_BY_FOUR, PILLAR_7, 0, 0, false, 0x070707);
        joined(THREE_BY_FOUR, PILLAR_7, 3, -4, false, 0x070707);
        says(34, "those that are none of its CELLS take nothing from it");
        for (int[] m : new int[][] {{7, 7}, {-7, -7}, {7, 0}, {-7, 0}, {0, 7}, {0, -7}, {7, -7}, {-7, 7}}) {
            joined(T, BAR_7, m[0], m[1], false, T);
        }
        // Beyond the end of a row lies not the begin of the next.
        joined(PILLAR_7, BAR_7, 1, 0, false, PILLAR_7);
        joined(PILLAR_7, BAR_7, -7, 1, false, PILLAR_7);
        joined(PILLAR_7, BAR_7, -6, 6, false, PILLAR_6);
        joined(PILLAR_7, BAR_7, -6, 7, false, PILLAR_7);
        notJoined(PILLAR_7, BAR_7, -6, 5, false);
        joined(BAR_7, PILLAR_7, 6, -6, false, BAR_6);
        joined(BAR_7, PILLAR_7, 0, -6, false, BAR_6);
        joined(BAR_7, PILLAR_7, 0, -7, false, BAR_7);
    }

    /** Every move of some twos of figures, more and less, and what they share there: as Model says. */
    private static void joinEverywhere() {
        says(34, "moved by (u, v) (-7 to 7)");
        long[][] pairs = {
            {CROSS, CROSS}, {CROSS, BAR_7}, {PILLAR_7, CROSS}, {CORNER_12, PILLAR_7 | 63L}, {HOOK, U}, {RING, T}, {ONE, HOOK},
            {2 | 7 << 8, 2 | 7 << 8 | 2 << 16}, {BAR_6, PILLAR_6}
        };
        for (long[] pair : pairs) {
            for (int i = 0; i < 225; i++) {
                int u = i % 15 - 7;
                int v = i / 15 - 7;
                String call = pair[0] + " and " + pair[1] + ", by " + u + ", " + v;
                for (boolean more : new boolean[] {true, false}) {
                    CellFigures x = with(pair);
                    Model model = new Model();
                    model.put(0, pair[0]);
                    model.put(1, pair[1]);
                    due(call + ": share", x.share(0, 1, u, v), model.share(0, 1, u, v));
                    due(call + ": join", x.join(0, 1, u, v, more), model.join(0, 1, u, v, more));
                    due(call + ": number(0, 0)", x.number(0, 0), model.number(0, 0));
                    due(call + ": number(1, 0)", x.number(1, 0), model.number(1, 0));
                }
            }
        }
    }

    private static void joinRefused() {
        says(34, "-2: one is empty; NONE: no such ones (-7 to 7)");
        for (boolean more : new boolean[] {true, false}) {
            unchanged("join(0, 1, ..)", () -> laden(T), -2, x -> x.join(0, 1, 0, 0, more));
            unchanged("join(1, 0, ..)", () -> laden(T), -2, x -> x.join(1, 0, 7, -7, more));
            unchanged("join(1, 1, ..)", () -> laden(T), -2, x -> x.join(1, 1, -7, 7, more));
            for (int[] m : new int[][] {{8, 0}, {-8, 0}, {0, 8}, {0, -8}, {LEAST, 0}, {0, GREATEST}}) {
                unchanged("no such move", () -> laden(T, ONE), NONE, x -> x.join(0, 1, m[0], m[1], more));
                unchanged("no such move, NONE first", () -> laden(T), NONE, x -> x.join(0, 1, m[0], m[1], more));
            }
        }
        says(34, "the same DRAWER twice");
        CellFigures x = laden(TWO_ACROSS);
        due("join(0, 0, 2, 0, true)", x.join(0, 0, 2, 0, true), 4);
        dueText("join(0, 0, ..)", seen(x), seen(laden(BAR_4)));
        x = laden(BAR_3);
        due("join(0, 0, 1, 0, false)", x.join(0, 0, 1, 0, false), 1);
        dueText("join(0, 0, ..)", seen(x), seen(laden(ONE)));
    }

    private static void swap() {
        says(35, "Two DRAWERS change what they hold: 1, 0 if both hold the same FIGURE, or are empty");
        CellFigures x = laden(T, 0, L, T);
        due("swap(0, 2)", x.swap(0, 2), 1);
        dueText("swap(0, 2)", seen(x), seen(laden(L, 0, T, T)));
        x = laden(T, 0, L, T);
        due("swap(0, 1), the second empty", x.swap(0, 1), 1);
        dueText("swap(0, 1)", seen(x), seen(laden(0, T, L, T)));
        x = laden(T, 0, L, T);
        due("swap(1, 0), the first empty", x.swap(1, 0), 1);
        dueText("swap(1, 0)", seen(x), seen(laden(0, T, L, T)));
        unchanged("swap(0, 3), the same", () -> laden(T, 0, L, T), 0, y -> y.swap(0, 3));
        unchanged("swap(0, 0), one alone", () -> laden(T, 0, L, T), 0, y -> y.swap(0, 0));
        unchanged("swap(1, 4), both empty", () -> laden(T, 0, L, T), 0, y -> y.swap(1, 4));
        unchanged("swap(1, 1), one alone, empty", () -> laden(T, 0, L, T), 0, y -> y.swap(1, 1));
        // One by a kind is not the same.
        due("swap of two turned ones", with(TWO_ACROSS, TWO_DOWN).swap(0, 1), 1);
        due("swap(0, 7)", with(T).swap(0, 7), 1);
        says(35, "NONE: no such ones");
        for (int[] a : new int[][] {{0, 8}, {8, 0}, {0, -1}, {-1, 0}, {8, 8}, {-1, -1}, {1, 8}}) {
            unchanged("swap(" + a[0] + ", " + a[1] + ")", () -> laden(T), NONE, y -> y.swap(a[0], a[1]));
        }
    }

    // ---- two figures

    private static void sides(long first, long second, int u, int v, int want) {
        unchanged(first + " and " + second + ": share(0, 1, " + u + ", " + v + ")", () -> laden(first, second), want,
            x -> x.share(0, 1, u, v));
        unchanged(second + " and " + first + ": share(0, 1, " + -u + ", " + -v + ")", () -> laden(second, first), want,
            x -> x.share(0, 1, -u, -v));
    }

    private static void share() {
        says(36, "they OVERLAP if some CELL is of both; else they SHARE as many SIDES as a CELL of the one is beside the other");
        sides(ONE, ONE, 0, 0, -3);
        sides(ONE, ONE, 1, 0, 1);
        sides(ONE, ONE, 0, 1, 1);
        sides(ONE, ONE, 1, 1, 0);
        sides(ONE, ONE, 1, -1, 0);
        sides(ONE, ONE, 2, 0, 0);
        sides(BAR_7, BAR_7, 6, 0, -3);
        sides(BAR_7, BAR_7, 7, 0, 1);
        sides(BAR_7, BAR_7, 7, 1, 0);
        sides(BAR_7, BAR_7, 6, 1, 1);
        sides(BAR_7, BAR_7, 0, 1, 7);
        sides(BAR_7, BAR_7, 7, 7, 0);
        sides(PILLAR_7, PILLAR_7, 0, 6, -3);
        sides(PILLAR_7, PILLAR_7, 0, 7, 1);
        sides(PILLAR_7, PILLAR_7, 1, 7, 0);
        sides(PILLAR_7, PILLAR_7, 1, 6, 1);
        sides(PILLAR_7, PILLAR_7, 1, 0, 7);
        sides(BAR_7, PILLAR_7, 6, 0, -3);
        sides(BAR_7, PILLAR_7, 7, 0, 1);
        sides(BAR_7, PILLAR_7, 7, 1, 0);
        sides(BAR_7, PILLAR_7, -1, -6, 1);
        sides(BAR_7, PILLAR_7, -1, -7, 0);
        sides(BAR_7, PILLAR_7, 0, -7, 1);
        sides(RING, ONE, 1, 1, 4);
        sides(U, ONE, 1, 0, 3);
        // The end of a row and the begin of the next are not side by side.
        sides(BAR_7, ONE, 0, 2, 0);
        sides(BAR_7, ONE, 7, -1, 0);
        sides(BAR_7, ONE, -1, 1, 0);
        sides(PILLAR_7, BAR_7, -7, 1, 1);
        sides(PILLAR_7, BAR_7, 1, 6, 1);
        sides(PILLAR_7, BAR_7, 1, 7, 0);
    }

    private static void shareRefused() {
        says(36, "-2: one is empty; NONE: no such ones");
        unchanged("share(0, 1, ..)", () -> laden(T), -2, x -> x.share(0, 1, 7, -7));
        unchanged("share(1, 0, ..)", () -> laden(T), -2, x -> x.share(1, 0, 0, 0));
        unchanged("share(1, 1, ..)", () -> laden(T), -2, x -> x.share(1, 1, 0, 0));
        unchanged("share(0, 0, 0, 0)", () -> laden(T), -3, x -> x.share(0, 0, 0, 0));
        for (int[] m : new int[][] {{8, 0}, {-8, 0}, {0, 8}, {0, -8}, {LEAST, 0}, {0, GREATEST}}) {
            unchanged("no such move", () -> laden(T, ONE), NONE, x -> x.share(0, 1, m[0], m[1]));
            unchanged("no such move, NONE first", () -> laden(T), NONE, x -> x.share(0, 1, m[0], m[1]));
        }
    }

    private static void touched(long first, long second, int... want) {
        for (int i = 0; i < 6; i++) {
            int what = i;
            unchanged(first + " and " + second + ": touch(0, 1, " + what + ")", () -> laden(first, second), want[what],
                x -> x.touch(0, 1, what));
        }
    }

    private static void touchAtTheRim() {
        says(37, "Of all (u, v) of -7 to 7");
        touched(BAR_7, BAR_7, 13, 28, 7, 10, 9, 14);
        touched(PILLAR_7, PILLAR_7, 13, 28, 7, 9, 10, 14);
        // The pillar below, above (first) or at either end of the row.
        touched(BAR_7, PILLAR_7, 49, 28, 1, 10, 3, 56);
        // The row above or below the pillar (first by v: above), or at either side of it.
        touched(PILLAR_7, BAR_7, 49, 28, 1, 4, 9, 56);
        for (long number : new long[] {CORNER_12, PILLAR_7 | 63L, HOOK, THREE_BY_FOUR, BAR_7}) {
            Model model = new Model();
            model.put(0, number);
            model.put(1, CORNER_12);
            for (int what = 0; what < 6; what++) {
                due(number + " and the corner: touch(0, 1, " + what + ")", with(number, CORNER_12).touch(0, 1, what), model.touch(0, 1, what));
            }
        }
    }

    private static void touchNear() {
        says(37, "u, v of the first with these (by v, then u; 10 more than they are)");
        touched(ONE, ONE, 1, 4, 1, 10, 9, 2);
        touched(TWO_ACROSS, TWO_ACROSS, 3, 8, 2, 10, 9, 4);
        touched(TWO_DOWN, TWO_DOWN, 3, 8, 2, 9, 10, 4);
        says(37, "the least AREA of a box (upright) round both, where they don't OVERLAP");
        touched(U, ONE, 5, 10, 3, 11, 10, 6);
        touched(RING, ONE, 8, 13, 4, 11, 11, 9);
        touched(ONE, RING, 8, 13, 4, 9, 9, 9);
        touched(ANGLE, ANGLE, 7, 10, 2, 9, 9, 8);
    }

    private static void touchRefused() {
        says(37, "-2: one is empty; NONE: no such ones");
        for (int i = 0; i < 6; i++) {
            int what = i;
            unchanged("touch(0, 1, " + what + ")", () -> laden(T), -2, x -> x.touch(0, 1, what));
            unchanged("touch(1, 0, " + what + ")", () -> laden(T), -2, x -> x.touch(1, 0, what));
            unchanged("touch(1, 1, " + what + ")", () -> laden(T), -2, x -> x.touch(1, 1, what));
        }
        for (int what : new int[] {-1, 6, LEAST, GREATEST}) {
            unchanged("touch(0, 0, " + what + ")", () -> laden(T), NONE, x -> x.touch(0, 0, what));
            unchanged("touch(0, 1, " + what + "), NONE first", () -> laden(T), NONE, x -> x.touch(0, 1, what));
        }
        unchanged("touch(1, 8, 0), NONE first", () -> laden(T), NONE, x -> x.touch(1, 8, 0));
        unchanged("touch(-1, 1, 0), NONE first", () -> laden(T), NONE, x -> x.touch(-1, 1, 0));
    }

    private static void count() {
        says(38, "0 DRAWERS that are not empty (bits), 1 bytes of the tape, 2 CELLS in all DRAWERS");
        long twelve = CORNER_12;
        Start full = () -> laden(twelve, twelve, twelve, twelve, twelve, twelve, twelve, twelve);
        unchanged("count(0) of full ones", full, 255, x -> x.count(0));
        unchanged("count(2) of full ones", full, 96, x -> x.count(2));
        unchanged("count(1)", full, 80, x -> x.count(1));
        unchanged("count(0) of empty ones", () -> laden(), 0, x -> x.count(0));
        unchanged("count(2) of empty ones", () -> laden(), 0, x -> x.count(2));
        for (int i = 0; i < 8; i++) {
            int d = i;
            due("count(0), DRAWER " + d + " alone", oneAlone(d).count(0), 1 << d);
            due("count(2), DRAWER " + d + " alone", oneAlone(d).count(2), 4);
        }
        says(38, "NONE for others");
        for (int what : new int[] {-1, 3, LEAST, GREATEST}) {
            unchanged("count(" + what + ")", full, NONE, x -> x.count(what));
            unchanged("count(" + what + ") of empty ones", () -> laden(), NONE, x -> x.count(what));
        }
    }

    private static CellFigures oneAlone(int d) {
        CellFigures x = new CellFigures();
        x.put(d, T);
        return x;
    }

    /** The calls that cost most, again and again: the last of 512 is as good as the first. */
    private static void lastCalls() {
        says(1, "An object is used for at most 512 calls after it has been made");
        CellFigures x = with(ONE, TWO_ACROSS, BAR_6, 7 | 7 << 8);
        for (int i = 0; i < 84; i++) {
            due("fill", x.fill(6, 6, 3, true), -3);
            due("tilers", x.tilers(7, 0), new Model().tilers(7, 0));
            due("way", x.way(2, 3), 3);
            due("touch", x.touch(2, 3, 1), 20);
            due("crowd", x.crowd(7, 0, 0, true), 760);
            due("part", x.part(3, 0), 208);
        }
        due("keep()", x.keep(), 1);
        due("back()", x.back(), 0);
        due("number(3, 0)", x.number(3, 0), 7 | 7 << 8);
        due("the 512th call", x.common(2, 3), 3);
    }
}

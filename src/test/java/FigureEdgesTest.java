/**
 * Promises 6 to 11 read sentence by sentence: for each that names a boundary case the last that is still so and the
 * first that is not, and for each refused call that nothing changes.
 */
public final class FigureEdgesTest extends TestBase {
    /** CORNER_12 in all turns: seven of it on one side, six on another. */
    private static final long[] CORNERS = {
        CORNER_12,
        column(5, 7) | 63L << 48,
        column(0, 6) | 127L << 40,
        column(0, 7) | 63L,
        column(0, 6) | 127L,
        column(5, 7) | 63L,
        column(6, 6) | 127L << 40,
        column(0, 7) | 63L << 48
    };

    private FigureEdgesTest() {
    }

    public static void main(String[] args) {
        cutCells();
        same();
        atTheRim();
        mostCells();
        holes();
        holesApart();
        beside();
        corners();
        whole();
        toldRefused();
        cell();
        number();
        turn();
        alike();
        changeToTheRim();
        changeCells();
        changeTogether();
        changeAlready();
        changeMoves();
        changeEverywhere();
        end("edges of figures");
    }

    private static long column(int x, int high) {
        long out = 0;
        for (int y = 0; y < high; y++) out |= 1L << 8 * y + x;
        return out;
    }

    /** All that told() says of the figure of a number, 0 to 14. */
    private static void toldAll(long number, int... want) {
        for (int i = 0; i < 15; i++) {
            int what = i;
            unchanged(number + ": told(0, " + what + ")", () -> laden(number), want[what], x -> x.told(0, what));
        }
    }

    private static void told(String text, int what, int want) {
        CellFigures x = new CellFigures();
        due("text " + text, read(x, 0, text) > 0, true);
        due(text + ": told(0, " + what + ")", x.told(0, what), want);
    }

    private static void cutCells() {
        says(6, "A CUT CELL: without it the others don't hang together (of one CELL: none is)");
        told("#", 6, 0);
        told("##", 6, 0);
        told("#/#", 6, 0);
        told("###", 6, 1);
        told("##/#", 6, 1);
        told("##/##", 6, 0);
        told("#######", 6, 5);
        told("#/#/#/#/#/#/#", 6, 5);
        told("###/#.#/###", 6, 0);
        told(".#./###/.#.", 6, 1);
        told("##./.##", 6, 2);
        told("######/######", 6, 0);
        // Two squares that share a cell: that one alone.
        told("##./###/.##", 6, 1);
    }

    private static void same() {
        says(6, "SAME (how many TURNS, 1 at least)");
        told("###/#", 13, 1);
        told("###/.#.", 13, 2);
        told("##./.##", 13, 2);
        told("##/#", 13, 2);
        told("##", 13, 4);
        // Four arms, each bent to the same hand: by quarters, never mirrored.
        told(".#../.###/###./..#.", 13, 4);
        told("#", 13, 8);
        told("##/##", 13, 8);
        told("#######", 13, 4);
        told("#/#/#/#/#/#/#", 13, 4);
    }

    private static void atTheRim() {
        says(6, "x and y 6 at most");
        toldAll(BAR_7, 7, 7, 1, 16, 0, 0, 5, 16, 4, 0, 0, 1, 1, 4, 6);
        toldAll(PILLAR_7, 7, 1, 7, 16, 0, 0, 5, 16, 4, 0, 0, 1, 1, 4, 6);
        for (int t = 0; t < 8; t++) {
            toldAll(CORNERS[t], 12, 7 - t % 2, 6 + t % 2, 26, 0, 0, 10, 25, 5, 1, 0, 1, 1, 1, 11);
        }
        // Seven across, and one below each end.
        toldAll(BAR_7 | 65 << 8, 9, 7, 2, 20, 0, 0, 7, 18, 6, 2, 0, 0, 1, 2, 8);
        // The same, upright.
        toldAll(PILLAR_7 | 2 | 2L << 48, 9, 2, 7, 20, 0, 0, 7, 18, 6, 2, 0, 1, 0, 2, 8);
        // Seven across, and two below the last two: a square at the rim.
        toldAll(BAR_7 | 96 << 8, 9, 7, 2, 18, 0, 0, 5, 17, 5, 1, 1, 1, 1, 1, 9);
        toldAll(PILLAR_7 | 2L << 40 | 2L << 48, 9, 2, 7, 18, 0, 0, 5, 17, 5, 1, 1, 1, 1, 1, 9);
        // The end of each row and the begin of the next but one: no two of these lie side by side.
        toldAll(64 | 127 << 8 | 1 << 16, 9, 7, 3, 20, 0, 0, 7, 18, 6, 2, 0, 1, 1, 2, 8);
    }

    private static void mostCells() {
        says(6, "1 to 12 CELLS");
        toldAll(ONE, 1, 1, 1, 4, 0, 0, 0, 4, 4, 0, 0, 1, 1, 8, 0);
        toldAll(THREE_BY_FOUR, 12, 4, 3, 14, 0, 0, 0, 14, 4, 0, 6, 1, 1, 4, 17);
    }

    private static void holes() {
        says(6, "OUTSIDE: from which one comes away without end, side by side; HOLES: what else is no CELL");
        told("###/#.#/###", 4, 1);
        told("###/#.#/###", 5, 1);
        // Aslant one doesn't come away.
        told("###/#.#/##.", 4, 1);
        told(".##/#.#/###", 4, 1);
        told("###/#.#/#.#", 4, 0);
        told("###/#.#/#.#", 5, 0);
        told("#.#/#.#/#.#/#.#/###", 4, 0);
        told("###/#.#/#.#/#.#/#.#", 5, 0);
        // Rings that reach the rims of seven by seven.
        String[] rings = {"....###/#####.#/....###", "###/#.#/###/.#/.#/.#/.#", ".#/.#/.#/.#/###/#.#/###", "###..../#.#####/###"};
        for (String ring : rings) {
            told(ring, 0, 12);
            told(ring, 4, 1);
            told(ring, 5, 1);
        }
        // Caves along the rims: away over the rim alone.
        for (int t = 0; t < 8; t++) {
            CellFigures x = with(HOOK);
            x.turn(0, t);
            due("a cave, turn " + t + ": told(0, 4)", x.told(0, 4), 0);
            due("a cave, turn " + t + ": told(0, 5)", x.told(0, 5), 0);
        }
    }

    private static void holesApart() {
        says(6, "HOLES, hanging together side by side");
        told("###./#.##/##.#/.###", 4, 2);
        told("###./#.##/##.#/.###", 5, 2);
        told("####/#..#/####", 4, 1);
        told("####/#..#/####", 5, 2);
        told("#####/#...#/#####", 4, 1);
        told("#####/#...#/#####", 5, 3);
        told("####/#..#/#..#/####", 4, 1);
        told("####/#..#/#..#/####", 5, 4);
        told("####/#..#/##.#/.###", 4, 1);
        told("####/#..#/##.#/.###", 5, 3);
    }

    private static void beside() {
        says(6, "BESIDE: places that are no CELLS, a CELL at some side (in HOLES, too)");
        told("#", 7, 4);
        told("##/#", 7, 7);
        told("#.#/###", 7, 10);
        told("###/#.#/###", 7, 13);
        told("####/#..#/#..#/####", 7, 20);
        told("###./#.##/##.#/.###", 7, 16);
    }

    private static void corners() {
        says(6, "just one of the four places round is a CELL, or just two aslant (these count twice): OUTER");
        told("#", 8, 4);
        told("#######", 8, 4);
        told("###/#.#/###", 8, 4);
        told("###/#.#/##.", 8, 7);
        told(".##/#.#/###", 8, 7);
        told("###./#.##/##.#/.###", 8, 8);
        told(".#./###/.#.", 8, 8);
        says(6, "just three: INNER");
        told("#", 9, 0);
        told("##/##", 9, 0);
        told("##/#", 9, 1);
        told("###/#.#/###", 9, 4);
        told("###/#.#/##.", 9, 3);
        told(".##/#.#/###", 9, 3);
        told(".#./###/.#.", 9, 4);
        says(6, "SQUARES: two by two CELLS");
        told("##/##", 10, 1);
        told("###/##", 10, 1);
        told("###/###", 10, 2);
        told("##/#", 10, 0);
        told("######/######", 10, 5);
        told(".....##/#######/##", 10, 2);
    }

    private static void whole() {
        says(6, "ROW-WHOLE: in each row the CELLS lie side by side; COLUMN-WHOLE likewise");
        told("#######", 11, 1);
        told("#######/#.....#", 11, 0);
        told("#######/#.....#", 12, 1);
        told("##/#./#./#./#./#./##", 11, 1);
        told("##/#./#./#./#./#./##", 12, 0);
        told("#/#######", 11, 1);
        told("#/#######", 12, 1);
        told("###/#.#/###", 11, 0);
        told("###/#.#/###", 12, 0);
        told("#.#/###/#..", 11, 0);
        told("#.#/###/#..", 12, 1);
        // The end of a row and the begin of the next are not one run.
        told("......#/#######/#", 11, 1);
        told("......#/#######/#", 12, 1);
        says(6, "how wide, how high");
        told("#", 1, 1);
        told("#", 2, 1);
        told("#######", 1, 7);
        told("#######", 2, 1);
        told("#/#/#/#/#/#/#", 1, 1);
        told("#/#/#/#/#/#/#", 2, 7);
        says(6, "twos of CELLS side by side");
        told("#", 14, 0);
        told("#######", 14, 6);
        told("#######/#", 14, 7);
        told("#######/......#", 14, 7);
        told("#/#/#/#/#/#/#", 14, 6);
        told("##/##", 14, 4);
    }

    private static void toldRefused() {
        says(6, "-2: it is empty; NONE: no such ones");
        for (int i = 0; i < 15; i++) {
            int what = i;
            unchanged("told(1, " + what + ")", () -> laden(T), -2, x -> x.told(1, what));
        }
        unchanged("told(1, 15), NONE first", () -> laden(T), NONE, x -> x.told(1, 15));
        unchanged("told(1, -1), NONE first", () -> laden(T), NONE, x -> x.told(1, -1));
    }

    private static void cell() {
        says(7, "Whether (x, y) is a CELL (1, 0; 0 to 6 both)");
        for (long number : new long[] {ONE, BAR_7, PILLAR_7, HOOK, CORNERS[0], CORNERS[1], CORNERS[6]}) {
            CellFigures x = with(number);
            for (int px = 0; px < 7; px++) {
                for (int py = 0; py < 7; py++) {
                    due(number + ": cell(0, " + px + ", " + py + ")", x.cell(0, px, py), number >> 8 * py + px & 1);
                }
            }
        }
        due("cell(0, 6, 0)", with(BAR_7).cell(0, 6, 0), 1);
        due("cell(0, 0, 6)", with(PILLAR_7).cell(0, 0, 6), 1);
        due("cell(0, 6, 5)", with(CORNER_12).cell(0, 6, 5), 1);
        due("cell(0, 5, 6)", with(CORNERS[1]).cell(0, 5, 6), 1);
        due("cell(0, 6, 6)", with(CORNER_12).cell(0, 6, 6), 0);
        says(7, "-2: empty; NONE: no such ones");
        unchanged("cell(1, 6, 6)", () -> laden(T), -2, x -> x.cell(1, 6, 6));
        for (int[] p : new int[][] {{7, 0}, {0, 7}, {-1, 0}, {0, -1}, {7, 7}, {-1, -1}}) {
            unchanged("cell(0, ..)", () -> laden(T), NONE, x -> x.cell(0, p[0], p[1]));
            unchanged("cell(1, ..), NONE first", () -> laden(T), NONE, x -> x.cell(1, p[0], p[1]));
        }
    }

    private static void number() {
        says(8, "NUMBER of a DRAWER's FIGURE by a KIND");
        for (int t = 0; t < 8; t++) {
            CellFigures x = with(CORNERS[t]);
            due("a corner, turn " + t + ", fixed", x.number(0, 0), CORNERS[t]);
            due("a corner, turn " + t + ", one-sided", x.number(0, 1), t < 4 ? CORNERS[0] : CORNERS[4]);
            due("a corner, turn " + t + ", free", x.number(0, 2), CORNERS[4]);
        }
        due("the greatest number of seven, one-sided", with(PILLAR_7).number(0, 1), BAR_7);
        due("the greatest number of seven, free", with(PILLAR_7).number(0, 2), BAR_7);
        due("one", with(ONE).number(0, 2), ONE);
        due("three by four, upright", with(0x07070707L).number(0, 1), THREE_BY_FOUR);
        says(8, "-2: empty; NONE: no such ones");
        for (int kind = 0; kind < 3; kind++) due("number(1, " + kind + ")", with(T).number(1, kind), -2);
        unchanged("number(1, 0)", () -> laden(T), -2, x -> x.number(1, 0));
        unchanged("number(1, 3), NONE first", () -> laden(T), NONE, x -> x.number(1, 3));
        unchanged("number(1, -1), NONE first", () -> laden(T), NONE, x -> x.number(1, -1));
        unchanged("number(0, 2)", () -> laden(1 | 7 << 8), L, x -> x.number(0, 2));
    }

    private static void turn() {
        says(9, "TURNS 0 to 7 of a FIGURE (moved so that it is one again)");
        for (int t = 0; t < 8; t++) {
            CellFigures x = laden(CORNER_12, L);
            due("turn(0, " + t + ")", x.turn(0, t), CORNERS[t]);
            dueText("turn(0, " + t + ")", seen(x), seen(laden(CORNERS[t], L)));
            due("turn of one by " + t, with(ONE).turn(0, t), ONE);
            due("turn of a square by " + t, with(SQUARE).turn(0, t), SQUARE);
            due("turn of seven across by " + t, with(BAR_7).turn(0, t), t % 2 == 0 ? BAR_7 : PILLAR_7);
            due("turn of seven down by " + t, with(PILLAR_7).turn(0, t), t % 2 == 0 ? PILLAR_7 : BAR_7);
        }
        unchanged("turn(0, 0)", () -> laden(CORNER_12), CORNER_12, x -> x.turn(0, 0));
        says(9, "-2: empty; NONE: no such ones");
        unchanged("turn(1, 7)", () -> laden(T), -2, x -> x.turn(1, 7));
        unchanged("turn(0, 8)", () -> laden(L), NONE, x -> x.turn(0, 8));
        unchanged("turn(0, -1)", () -> laden(L), NONE, x -> x.turn(0, -1));
        unchanged("turn(1, 8), NONE first", () -> laden(L), NONE, x -> x.turn(1, 8));
    }

    private static void alike() {
        says(10, "Whether two are one by a KIND (1, 0)");
        for (int t = 0; t < 8; t++) {
            CellFigures x = with(CORNER_12, CORNERS[t]);
            due("fixed, turn " + t, x.alike(0, 1, 0), t == 0 ? 1 : 0);
            due("one-sided, turn " + t, x.alike(0, 1, 1), t < 4 ? 1 : 0);
            due("free, turn " + t, x.alike(0, 1, 2), 1);
        }
        for (int kind = 0; kind < 3; kind++) {
            due("one cell and two", with(ONE, TWO_ACROSS).alike(0, 1, kind), 0);
            due("the same DRAWER", with(L).alike(0, 0, kind), 1);
        }
        says(10, "-2: one is empty; NONE: no such ones");
        unchanged("alike(0, 1, 0)", () -> laden(T), -2, x -> x.alike(0, 1, 0));
        unchanged("alike(1, 0, 0)", () -> laden(T), -2, x -> x.alike(1, 0, 0));
        unchanged("alike(1, 2, 0), both empty", () -> laden(T), -2, x -> x.alike(1, 2, 0));
        unchanged("alike(1, 0, 3), NONE first", () -> laden(T), NONE, x -> x.alike(1, 0, 3));
        unchanged("alike(1, 8, 0), NONE first", () -> laden(T), NONE, x -> x.alike(1, 8, 0));
        unchanged("alike(8, 1, 0), NONE first", () -> laden(T), NONE, x -> x.alike(8, 1, 0));
    }

    // ---- change

    private static void changed(long number, int px, int py, boolean is, long then) {
        CellFigures x = laden(number, L);
        due(number + ": change(0, " + px + ", " + py + ", " + is + ")", x.change(0, px, py, is), Long.bitCount(then));
        dueText(number + ": change(0, " + px + ", " + py + ", " + is + ")", seen(x), seen(laden(then, L)));
    }

    private static void notChanged(long number, int px, int py, boolean is) {
        unchanged(number + ": change(0, " + px + ", " + py + ", " + is + ")", () -> laden(number, L), -3, x -> x.change(0, px, py, is));
    }

    private static void changeToTheRim() {
        says(11, "-3: it would be no FIGURE (x and y 6 at most)");
        changed(BAR_6, 6, 0, true, BAR_7);
        changed(BAR_6, -1, 0, true, BAR_7);
        notChanged(BAR_6, 7, 0, true);
        notChanged(BAR_7, 7, 0, true);
        notChanged(BAR_7, -1, 0, true);
        changed(column(0, 6), 0, 6, true, PILLAR_7);
        changed(column(0, 6), 0, -1, true, PILLAR_7);
        notChanged(column(0, 6), 0, 7, true);
        notChanged(PILLAR_7, 0, 7, true);
        notChanged(PILLAR_7, 0, -1, true);
        changed(BAR_7, 6, 1, true, BAR_7 | 64 << 8);
        changed(BAR_7, 6, -1, true, 64 | BAR_7 << 8);
        changed(BAR_7, 0, -1, true, 1 | BAR_7 << 8);
        changed(PILLAR_7, 1, 6, true, PILLAR_7 | 2L << 48);
        changed(PILLAR_7, -1, 6, true, PILLAR_7 << 1 | 1L << 48);
        changed(PILLAR_7, -1, 0, true, PILLAR_7 << 1 | 1);
    }

    private static void changeCells() {
        says(11, "-3: it would be no FIGURE (1 to 12 CELLS)");
        long eleven = THREE_BY_FOUR & ~(8L << 16);
        changed(eleven, 3, 2, true, THREE_BY_FOUR);
        notChanged(THREE_BY_FOUR, 4, 2, true);
        notChanged(THREE_BY_FOUR, 0, 3, true);
        notChanged(THREE_BY_FOUR, -1, 0, true);
        notChanged(CORNER_12, 6, 6, true);
        changed(THREE_BY_FOUR, 3, 2, false, eleven);
        changed(TWO_ACROSS, 1, 0, false, ONE);
        changed(TWO_DOWN, 0, 1, false, ONE);
        notChanged(ONE, 0, 0, false);
    }

    private static void changeTogether() {
        says(11, "-3: it would be no FIGURE (CELLS that hang together)");
        notChanged(ONE, 1, 1, true);
        notChanged(ONE, -1, -1, true);
        notChanged(ONE, 2, 0, true);
        notChanged(ONE, 0, 2, true);
        notChanged(ONE, 7, 7, true);
        // Beyond the end of a row lies not the begin of the next.
        notChanged(BAR_7, 7, -1, true);
        notChanged(BAR_7, 7, 1, true);
        notChanged(BAR_7, -1, 1, true);
        notChanged(BAR_7, -1, -1, true);
        notChanged(BAR_3, 1, 0, false);
        notChanged(ANGLE, 0, 0, false);
        changed(RING, 1, 1, true, RING | 2 << 8);
        changed(RING, 1, 0, false, RING & ~2);
        notChanged(OPEN_RING, 0, 0, false);
    }

    private static void changeAlready() {
        says(11, "-3: it is so already");
        notChanged(T, 0, 0, true);
        notChanged(T, 1, 1, true);
        notChanged(BAR_7, 6, 0, true);
        notChanged(PILLAR_7, 0, 6, true);
        notChanged(T, 0, 1, false);
        notChanged(T, -1, 0, false);
        notChanged(T, 0, -1, false);
        notChanged(T, -1, -1, false);
        notChanged(T, 7, 7, false);
        notChanged(BAR_7, 7, 0, false);
        notChanged(PILLAR_7, 0, 7, false);
        says(11, "-2: empty; NONE: no such ones");
        for (boolean is : new boolean[] {true, false}) {
            unchanged("change(1, 0, 0, ..)", () -> laden(T), -2, x -> x.change(1, 0, 0, is));
            unchanged("change(1, 7, 7, ..)", () -> laden(T), -2, x -> x.change(1, 7, 7, is));
            unchanged("change(1, -1, -1, ..)", () -> laden(T), -2, x -> x.change(1, -1, -1, is));
            for (int[] p : new int[][] {{-2, 0}, {8, 0}, {0, -2}, {0, 8}}) {
                unchanged("change(1, ..), NONE first", () -> laden(T), NONE, x -> x.change(1, p[0], p[1], is));
                unchanged("change(0, ..), NONE first", () -> laden(T), NONE, x -> x.change(0, p[0], p[1], is));
            }
        }
    }

    private static void changeMoves() {
        says(11, "then it is moved to 0, 0");
        changed(ONE, -1, 0, true, TWO_ACROSS);
        changed(ONE, 0, -1, true, TWO_DOWN);
        changed(ONE, 1, 0, true, TWO_ACROSS);
        changed(ONE, 0, 1, true, TWO_DOWN);
        changed(TWO_ACROSS, 0, 0, false, ONE);
        changed(TWO_DOWN, 0, 0, false, ONE);
        changed(BAR_7, 0, 0, false, BAR_6);
        changed(BAR_7, 6, 0, false, BAR_6);
        changed(PILLAR_7, 0, 0, false, column(0, 6));
        changed(PILLAR_7, 0, 6, false, column(0, 6));
        // The only one at x 0, the only one at y 0.
        changed(2 | 3 << 8, 0, 1, false, TWO_DOWN);
        changed(1 | 3 << 8, 0, 0, false, TWO_ACROSS);
        changed(ANGLE, -1, 0, true, 7 | 2 << 8);
        changed(ANGLE, 1, -1, true, 2 | 3 << 8 | 1 << 16);
    }

    /** Every place of -1 to 7 of some figures, more and less: as Model says. */
    private static void changeEverywhere() {
        says(11, "A CELL more (is true), less, at (x, y) as the FIGURE lies (-1 to 7)");
        for (long number : new long[] {ONE, T, BAR_7, PILLAR_7, RING, HOOK, CORNERS[1], BAR_7 | 65 << 8, column(0, 6) | 2}) {
            for (int i = 0; i < 162; i++) {
                int px = i % 9 - 1;
                int py = i / 9 % 9 - 1;
                CellFigures x = with(number);
                Model model = new Model();
                model.put(0, number);
                String call = number + ": change(0, " + px + ", " + py + ", " + (i < 81) + ")";
                due(call, x.change(0, px, py, i < 81), model.change(0, px, py, i < 81));
                due(call + ", then number(0, 0)", x.number(0, 0), model.number(0, 0));
            }
        }
    }
}

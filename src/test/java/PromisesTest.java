/** The promises of the document one by one: ordinary calls, the edges that it names, wrong calls. */
public final class PromisesTest extends TestBase {
    private PromisesTest() {
    }

    public static void main(String[] args) {
        newObject();
        feed();
        figure();
        figureFaults();
        put();
        take();
        told();
        toldEdges();
        cell();
        number();
        turn();
        alike();
        change();
        list();
        listed();
        place();
        many();
        found();
        crowd();
        kin();
        kinAt();
        way();
        farthest();
        drawn();
        line();
        tiles();
        tilers();
        fill();
        vector();
        owner();
        part();
        inside();
        common();
        keepAndBack();
        join();
        swap();
        share();
        touch();
        count();
        end("promises");
    }

    private static void newObject() {
        promise(1);
        CellFigures x = new CellFigures();
        for (int d = 0; d < 8; d++) due("told(" + d + ", 0)", x.told(d, 0), -2);
        due("count(0)", x.count(0), 0);
        due("count(1)", x.count(1), 0);
        due("count(2)", x.count(2), 0);
        due("back()", x.back(), NONE);
        due("NONE", CellFigures.NONE, -1);
    }

    private static void feed() {
        promise(2);
        CellFigures x = new CellFigures();
        for (int i = 1; i <= 6; i++) due("feed", x.feed(0, 0, 0, 0, 0), 20 * i);
        due("feed beyond 120", x.feed(0, 0, 0, 0, 0), NONE);
        due("count(1)", x.count(1), 120);
        x = new CellFigures();
        // The highest byte first, and the ints one behind the other: "#.#" holds not together, "##.." does.
        due("feed", x.feed(0x23232F23, 0x23202020, 0, 0, 0), 20);
        due("figure", x.figure(0, 5), 4);
        due("number", x.number(0, 0), SQUARE);
        due("feed of negative ints", x.feed(-1, -1, -1, -1, -1), 20);
        due("figure of byte 255", x.figure(0, 1), -1000);
    }

    private static void figure() {
        promise(3);
        CellFigures x = new CellFigures();
        due("figure, the tape empty", x.figure(0, 1), NONE);
        due("read", read(x, 0, "###/.#."), 4);
        due("number", x.number(0, 0), T);
        due("count(1)", x.count(1), 0);
        due("read with blanks", read(x, 1, " # # /  ##  / "), 4);
        due("number", x.number(1, 0), SQUARE);
        due("read, moved to 0, 0", read(x, 2, "///..##/...#"), 3);
        due("number", x.number(2, 0), 3 + (2 << 8));
        due("read, the farthest corner", read(x, 2, "//////......#"), 1);
        due("number", x.number(2, 0), ONE);
        due("read of 60", read(x, 3, "#######/######".substring(0, 12) + "/" + " ".repeat(47)), 11);
        tape(x, "##/");
        due("figure(8, 3)", x.figure(8, 3), NONE);
        due("figure(-1, 3)", x.figure(-1, 3), NONE);
        due("figure(0, 0)", x.figure(0, 0), NONE);
        due("figure(0, -1)", x.figure(0, -1), NONE);
        due("figure(0, 21)", x.figure(0, 21), NONE);
        due("the tape stays", x.count(1), 20);
        due("figure(0, 2)", x.figure(0, 2), 2);
        due("the tape is empty", x.count(1), 0);
        tape(x, "#" + " ".repeat(79));
        due("figure(0, 61)", x.figure(0, 61), NONE);
        due("figure(0, 60)", x.figure(0, 60), 1);
    }

    private static void figureFaults() {
        promise(3);
        CellFigures x = with(T);
        due("another byte", read(x, 0, "##a"), -1002);
        due("another byte, first", read(x, 0, "x"), -1000);
        due("an 8th of a row", read(x, 0, "...... ..#"), -2008);
        due("an 8th that is the 13th", read(x, 0, "#####../#######..."), -2015);
        due("a 7th /", read(x, 0, "#/#/#/#/#/#//"), -3012);
        due("a 13th #", read(x, 0, "######/#######"), -4013);
        due("no #", read(x, 0, "./.. "), -5005);
        due("not hanging together", read(x, 0, "#./.#"), -5005);
        due("blanks alone", read(x, 0, "  "), -5002);
        due("the first fault from the left", read(x, 0, "#.#b........"), -1003);
        due("six / and seven in a row", read(x, 0, "//////#######"), 7);
        due("twelve #", read(x, 1, "######/######"), 12);
        due("count(1)", x.count(1), 0);
        due("a fault leaves the figure", read(x, 1, "#.#"), -5003);
        due("told(1, 0)", x.told(1, 0), 12);
    }

    private static void put() {
        promise(4);
        CellFigures x = new CellFigures();
        due("put(0, 1)", x.put(0, 1), true);
        due("put(7, BAR_7)", x.put(7, BAR_7), true);
        due("number(7, 0)", x.number(7, 0), BAR_7);
        due("put(1, PILLAR_7)", x.put(1, PILLAR_7), true);
        due("put of 12", x.put(2, THREE_BY_FOUR), true);
        due("put of 13", x.put(2, THREE_BY_FOUR | 1 << 24), false);
        due("put(8, 1)", x.put(8, 1), false);
        due("put(-1, 1)", x.put(-1, 1), false);
        due("put of none", x.put(0, 0), false);
        due("least x not 0", x.put(0, 2), false);
        due("least y not 0", x.put(0, 256), false);
        due("not hanging together", x.put(0, 5), false);
        due("aslant", x.put(0, 1 + (2 << 8)), false);
        due("x of 7", x.put(0, 255), false);
        due("y of 7", x.put(0, 0x0101010101010101L), false);
        due("from row to row", x.put(0, 127L | 128 | 256), false);
        due("x 7 between", x.put(0, 0xC0L | 0x1FL << 8 | 1), false);
        due("negative", x.put(0, -1), false);
        due("least long", x.put(0, Long.MIN_VALUE), false);
        due("number(0, 0) stays", x.number(0, 0), 1);
        due("number(2, 0) stays", x.number(2, 0), THREE_BY_FOUR);
    }

    private static void take() {
        promise(5);
        CellFigures x = with(T);
        due("take(0)", x.take(0), 1);
        due("take(0)", x.take(0), 0);
        due("told(0, 0)", x.told(0, 0), -2);
        due("take(7)", x.take(7), 0);
        due("take(8)", x.take(8), NONE);
        due("take(-1)", x.take(-1), NONE);
    }

    /** All that told() says of the figure of a number, 0 to 14. */
    private static void toldAll(long number, int... want) {
        CellFigures x = with(number);
        for (int what = 0; what < 15; what++) due(number + ": told(0, " + what + ")", x.told(0, what), want[what]);
    }

    private static void told() {
        promise(6);
        toldAll(ONE, 1, 1, 1, 4, 0, 0, 0, 4, 4, 0, 0, 1, 1, 8, 0);
        toldAll(TWO_DOWN, 2, 1, 2, 6, 0, 0, 0, 6, 4, 0, 0, 1, 1, 4, 1);
        toldAll(T, 4, 3, 2, 10, 0, 0, 1, 8, 6, 2, 0, 1, 1, 2, 3);
        toldAll(SQUARE, 4, 2, 2, 8, 0, 0, 0, 8, 4, 0, 1, 1, 1, 8, 4);
        toldAll(L, 4, 3, 2, 10, 0, 0, 2, 9, 5, 1, 0, 1, 1, 1, 3);
        toldAll(U, 5, 3, 2, 12, 0, 0, 3, 10, 6, 2, 0, 0, 1, 2, 4);
        toldAll(CROSS, 5, 3, 3, 12, 0, 0, 1, 8, 8, 4, 0, 1, 1, 8, 4);
        toldAll(RING, 8, 3, 3, 16, 1, 1, 0, 13, 4, 4, 0, 0, 0, 8, 8);
        toldAll(OPEN_RING, 7, 3, 3, 16, 1, 1, 5, 12, 7, 3, 0, 0, 0, 2, 6);
        toldAll(BAR_7, 7, 7, 1, 16, 0, 0, 5, 16, 4, 0, 0, 1, 1, 4, 6);
        toldAll(PILLAR_7, 7, 1, 7, 16, 0, 0, 5, 16, 4, 0, 0, 1, 1, 4, 6);
        toldAll(THREE_BY_FOUR, 12, 4, 3, 14, 0, 0, 0, 14, 4, 0, 6, 1, 1, 4, 17);
    }

    private static void toldEdges() {
        promise(6);
        CellFigures x = new CellFigures();
        // Two rings of which each lacks the other's corner: their middles lie aslant and are two holes.
        due("two holes", read(x, 0, "###./#.##/##.#/.###"), 12);
        due("told(0, 4)", x.told(0, 4), 2);
        due("told(0, 5)", x.told(0, 5), 2);
        due("told(0, 8)", x.told(0, 8), 8);
        due("told(0, 9)", x.told(0, 9), 8);
        due("one hole of two places", read(x, 1, "####/#..#/####"), 10);
        due("told(1, 4)", x.told(1, 4), 1);
        due("told(1, 5)", x.told(1, 5), 2);
        due("told(1, 7)", x.told(1, 7), 16);
        due("a hook, whole by columns alone", read(x, 2, "#.#/###/#.."), 6);
        due("told(2, 11)", x.told(2, 11), 0);
        due("told(2, 12)", x.told(2, 12), 1);
        due("told(3, 0)", x.told(3, 0), -2);
        due("told(0, 15)", x.told(0, 15), NONE);
        due("told(0, -1)", x.told(0, -1), NONE);
        due("told(8, 0)", x.told(8, 0), NONE);
        due("told(3, 15)", x.told(3, 15), NONE);
        x = with(6 + (3 << 8));
        due("SAME of S", x.told(0, 13), 2);
        for (int t = 0; t < 8; t++) {
            x = with(HOOK);
            x.turn(0, t);
            due("no hole in a cave, turn " + t, x.told(0, 4), 0);
            due("no places in holes, turn " + t, x.told(0, 5), 0);
        }
    }

    private static void cell() {
        promise(7);
        CellFigures x = with(T);
        due("cell(0, 0, 0)", x.cell(0, 0, 0), 1);
        due("cell(0, 1, 1)", x.cell(0, 1, 1), 1);
        due("cell(0, 0, 1)", x.cell(0, 0, 1), 0);
        due("cell(0, 6, 6)", x.cell(0, 6, 6), 0);
        due("cell(1, 6, 6)", x.cell(1, 6, 6), -2);
        due("cell(0, 7, 0)", x.cell(0, 7, 0), NONE);
        due("cell(0, 0, 7)", x.cell(0, 0, 7), NONE);
        due("cell(0, -1, 0)", x.cell(0, -1, 0), NONE);
        due("cell(1, 0, -1)", x.cell(1, 0, -1), NONE);
        due("cell(8, 0, 0)", x.cell(8, 0, 0), NONE);
    }

    private static void number() {
        promise(8);
        // J and L, which are one by FREE alone: the least of J's turns is 1031, of L's 263.
        long j = 1 + (7 << 8);
        CellFigures x = with(j, 1 + (1 << 8) + (3 << 16), PILLAR_7);
        due("number(0, 0)", x.number(0, 0), j);
        due("number(0, 1)", x.number(0, 1), 7 + (4 << 8));
        due("number(0, 2)", x.number(0, 2), L);
        due("number(1, 1)", x.number(1, 1), L);
        due("number(2, 0)", x.number(2, 0), PILLAR_7);
        due("number(2, 1)", x.number(2, 1), BAR_7);
        due("number(2, 2)", x.number(2, 2), BAR_7);
        due("number(3, 0)", x.number(3, 0), -2);
        due("number(0, 3)", x.number(0, 3), NONE);
        due("number(0, -1)", x.number(0, -1), NONE);
        due("number(8, 0)", x.number(8, 0), NONE);
    }

    private static void turn() {
        promise(9);
        // L: three in a row, one below the left. To the right a quarter: the row is a pillar, the one is left of its top.
        long[] turns = {
            263, 3 + (2 << 8) + (2 << 16), 4 + (7 << 8), 1 + (1 << 8) + (3 << 16),
            7 + (4 << 8), 2 + (2 << 8) + (3 << 16), 1 + (7 << 8), 3 + (1 << 8) + (1 << 16)
        };
        for (int t = 0; t < 8; t++) {
            CellFigures x = with(L);
            due("turn(0, " + t + ")", x.turn(0, t), turns[t]);
            due("number(0, 0) then", x.number(0, 0), turns[t]);
        }
        CellFigures x = with(L);
        due("turn(1, 0)", x.turn(1, 0), -2);
        due("turn(0, 8)", x.turn(0, 8), NONE);
        due("turn(0, -1)", x.turn(0, -1), NONE);
        due("turn(8, 0)", x.turn(8, 0), NONE);
        due("number(0, 0) stays", x.number(0, 0), L);
        due("turn of a pillar", with(PILLAR_7).turn(0, 5), BAR_7);
        // Five across and five down: what lies at (4, 0) and what at (0, 4) are there both, whatever the turn.
        long five = 31 | 1L << 8 | 1L << 16 | 1L << 24 | 1L << 32;
        long[] fives = {five, 31 | 16L << 8 | 16L << 16 | 16L << 24 | 16L << 32,
            16 | 16L << 8 | 16L << 16 | 16L << 24 | 31L << 32, 1 | 1L << 8 | 1L << 16 | 1L << 24 | 31L << 32};
        for (int t = 0; t < 4; t++) due("turn of two fives by " + t, with(five).turn(0, t), fives[t]);
        due("turn of two fives by 4", with(five).turn(0, 4), fives[1]);
    }

    private static void alike() {
        promise(10);
        CellFigures x = with(L, 1 + (7 << 8), 4 + (7 << 8), T);
        due("alike(0, 0, 0)", x.alike(0, 0, 0), 1);
        due("alike(0, 2, 0)", x.alike(0, 2, 0), 0);
        due("alike(0, 2, 1)", x.alike(0, 2, 1), 1);
        due("alike(0, 1, 1)", x.alike(0, 1, 1), 0);
        due("alike(0, 1, 2)", x.alike(0, 1, 2), 1);
        due("alike(0, 3, 2)", x.alike(0, 3, 2), 0);
        due("alike(0, 4, 2)", x.alike(0, 4, 2), -2);
        due("alike(4, 0, 2)", x.alike(4, 0, 2), -2);
        due("alike(4, 4, 2)", x.alike(4, 4, 2), -2);
        due("alike(4, 0, 3)", x.alike(4, 0, 3), NONE);
        due("alike(8, 0, 0)", x.alike(8, 0, 0), NONE);
        due("alike(0, 8, 0)", x.alike(0, 8, 0), NONE);
    }

    private static void change() {
        promise(11);
        CellFigures x = with(BAR_3, BAR_7, THREE_BY_FOUR, ONE, PILLAR_7);
        due("change(0, 1, 1, true)", x.change(0, 1, 1, true), 4);
        due("number", x.number(0, 0), T);
        due("change(0, -1, 0, true)", x.change(0, -1, 0, true), 5);
        due("number", x.number(0, 0), 15 + (4 << 8));
        due("change(0, 2, -1, true)", x.change(0, 2, -1, true), 6);
        due("number", x.number(0, 0), 4 + (15 << 8) + (4 << 16));
        due("it is so already", x.change(0, 2, 0, true), -3);
        due("it is so already, none", x.change(0, 0, 0, false), -3);
        due("not hanging together", x.change(0, 5, 1, true), -3);
        due("a cut cell", x.change(0, 2, 1, false), -3);
        due("change(0, 2, 0, false)", x.change(0, 2, 0, false), 5);
        due("moved to 0, 0", x.number(0, 0), 15 + (4 << 8));
        due("change(0, 0, 0, false)", x.change(0, 0, 0, false), 4);
        due("moved to 0, 0", x.number(0, 0), 7 + (2 << 8));
        due("an 8th to the right", x.change(1, 7, 0, true), -3);
        due("an 8th to the left", x.change(1, -1, 0, true), -3);
        due("change(1, 6, -1, true)", x.change(1, 6, -1, true), 8);
        due("an 8th up", x.change(4, 0, -1, true), -3);
        due("an 8th down", x.change(4, 0, 7, true), -3);
        due("change(4, -1, 6, true)", x.change(4, -1, 6, true), 8);
        due("a 13th", x.change(2, 4, 0, true), -3);
        due("the last one", x.change(3, 0, 0, false), -3);
        due("outside, none already", x.change(3, 7, 7, false), -3);
        due("outside, none already", x.change(3, -1, -1, false), -3);
        due("aslant", x.change(3, -1, -1, true), -3);
        due("change(5, 0, 0, true)", x.change(5, 0, 0, true), -2);
        due("change(5, 8, 0, true)", x.change(5, 8, 0, true), NONE);
        due("change(0, 0, 8, true)", x.change(0, 0, 8, true), NONE);
        due("change(0, -2, 0, true)", x.change(0, -2, 0, true), NONE);
        due("change(0, 0, -2, false)", x.change(0, 0, -2, false), NONE);
        due("change(8, 0, 0, true)", x.change(8, 0, 0, true), NONE);
        due("number(3, 0) stays", x.number(3, 0), ONE);
    }

    private static void list() {
        promise(12);
        int[][] sizes = {{1, 2, 6, 19, 63, 216, 760}, {1, 1, 2, 7, 18, 60, 196}, {1, 1, 2, 5, 12, 35, 108}};
        CellFigures x = new CellFigures();
        for (int n = 7; n >= 1; n--) {
            for (int kind = 0; kind < 3; kind++) due("list(" + n + ", " + kind + ")", x.list(n, kind), sizes[kind][n - 1]);
        }
        due("list(0, 0)", x.list(0, 0), NONE);
        due("list(8, 0)", x.list(8, 0), NONE);
        due("list(1, 3)", x.list(1, 3), NONE);
        due("list(1, -1)", x.list(1, -1), NONE);
    }

    private static void listed() {
        promise(13);
        CellFigures x = new CellFigures();
        long[] threes = {7, 259, 515, 769, 770, 65793};
        for (int k = 0; k < 6; k++) due("listed(3, 0, " + k + ")", x.listed(3, 0, k), threes[k]);
        due("listed(3, 0, 6)", x.listed(3, 0, 6), -2);
        due("listed(3, 2, 1)", x.listed(3, 2, 1), ANGLE);
        due("listed(4, 1, 2)", x.listed(4, 1, 2), 519);
        due("listed(4, 1, 3)", x.listed(4, 1, 3), 771);
        due("listed(7, 0, 0)", x.listed(7, 0, 0), BAR_7);
        due("listed(7, 0, 759)", x.listed(7, 0, 759), PILLAR_7);
        due("listed(7, 0, 760)", x.listed(7, 0, 760), -2);
        due("listed(7, 0, greatest)", x.listed(7, 0, Integer.MAX_VALUE), -2);
        due("listed(7, 0, -1)", x.listed(7, 0, -1), NONE);
        due("listed(0, 0, 0)", x.listed(0, 0, 0), NONE);
        due("listed(8, 0, 0)", x.listed(8, 0, 0), NONE);
        due("listed(1, 3, 5)", x.listed(1, 3, 5), NONE);
        // Two objects, as what one answers behind its 512th call is free.
        long before = 0;
        for (int k = 0; k < 760; k++) {
            if (k == 400) x = new CellFigures();
            long number = x.listed(7, 0, k);
            due("rising at " + k, number > before, true);
            before = number;
        }
    }

    private static void place() {
        promise(14);
        CellFigures x = with(770, RING, PILLAR_7, 1 + (7 << 8));
        due("place(0, 0)", x.place(0, 0), 4);
        due("place(0, 1)", x.place(0, 1), 1);
        due("place(0, 2)", x.place(0, 2), 1);
        due("place(1, 0)", x.place(1, 0), -3);
        due("place(2, 0)", x.place(2, 0), 759);
        due("place(2, 2)", x.place(2, 2), 0);
        due("place(3, 1)", x.place(3, 1), 5);
        due("place(3, 2)", x.place(3, 2), 1);
        due("place(4, 0)", x.place(4, 0), -2);
        due("place(0, 3)", x.place(0, 3), NONE);
        due("place(8, 0)", x.place(8, 0), NONE);
        for (int k = 0; k < 196; k++) {
            if (k % 100 == 0) x = new CellFigures();
            x.put(5, x.listed(7, 1, k));
            due("place of " + k, x.place(5, 1), k);
        }
    }

    private static void many() {
        promise(15);
        CellFigures x = new CellFigures();
        due("many of 1 to 7 by cells", x.many(7, 0, 0, 7, 7), 760);
        due("many with SIDES 10", x.many(4, 2, 3, 10, 10), 4);
        due("many with SIDES 8 to 10", x.many(4, 2, 3, 8, 10), 5);
        due("many with SIDES 9", x.many(4, 2, 3, 9, 9), 0);
        due("many with a hole", x.many(7, 2, 4, 1, 9), 1);
        due("many with a hole, one-sided", x.many(7, 1, 4, 1, 9), 1);
        due("many with a hole, fixed", x.many(7, 0, 4, 1, 9), 4);
        due("many of SAME 1", x.many(5, 2, 13, 1, 1), 5);
        due("many of all values", x.many(6, 2, 7, Integer.MIN_VALUE, Integer.MAX_VALUE), 35);
        due("again", x.many(6, 2, 7, Integer.MIN_VALUE, Integer.MAX_VALUE), 35);
        due("none of the next size", x.many(4, 0, 0, 5, 5), 0);
        due("none of the size before", x.many(4, 0, 0, 3, 3), 0);
        due("high below low", x.many(4, 2, 3, 10, 9), NONE);
        due("what 15", x.many(4, 2, 15, 0, 9), NONE);
        due("what -1", x.many(4, 2, -1, 0, 9), NONE);
        due("n 8", x.many(8, 2, 3, 0, 9), NONE);
        due("n 0", x.many(0, 2, 3, 0, 9), NONE);
        due("kind 3", x.many(4, 3, 3, 0, 9), NONE);
    }

    private static void found() {
        promise(16);
        CellFigures x = new CellFigures();
        long[] tens = {15, 263, 519, 774};
        for (int k = 0; k < 4; k++) due("found, k " + k, x.found(4, 2, 3, 10, 10, k), tens[k]);
        due("found, k 4", x.found(4, 2, 3, 10, 10, 4), -2);
        due("found with a hole", x.found(7, 2, 4, 1, 1, 0), OPEN_RING);
        due("found none", x.found(4, 2, 3, 9, 9, 0), -2);
        due("none of the next size", x.found(4, 0, 0, 5, 5, 0), -2);
        due("none of the next size", x.found(4, 1, 0, 4, 5, 7), -2);
        due("none of the next size", x.found(4, 2, 0, 4, 5, 5), -2);
        due("k -1", x.found(4, 2, 3, 10, 10, -1), NONE);
        due("high below low", x.found(4, 2, 3, 10, 9, 0), NONE);
        due("what 15", x.found(4, 2, 15, 0, 9, 0), NONE);
        due("n 8", x.found(8, 2, 3, 0, 9, 0), NONE);
        due("kind -1", x.found(4, -1, 3, 0, 9, 0), NONE);
    }

    private static void crowd() {
        promise(17);
        CellFigures x = new CellFigures();
        due("crowd by SIDES", x.crowd(4, 2, 3, true), 4);
        due("unlike SIDES", x.crowd(4, 2, 3, false), 2);
        due("crowd by width", x.crowd(4, 0, 1, true), 9);
        due("unlike widths", x.crowd(4, 0, 1, false), 4);
        due("crowd by cells", x.crowd(7, 1, 0, true), 196);
        due("unlike cells", x.crowd(7, 1, 0, false), 1);
        due("unlike SAME of 5", x.crowd(5, 2, 13, false), 4);
        due("n 0", x.crowd(0, 0, 0, true), NONE);
        due("n 8", x.crowd(8, 0, 0, false), NONE);
        due("kind 3", x.crowd(1, 3, 0, true), NONE);
        due("what 15", x.crowd(1, 0, 15, true), NONE);
        due("what -1", x.crowd(1, 0, -1, true), NONE);
    }

    private static void kin() {
        promise(18);
        CellFigures x = with(ONE, T, BAR_7, THREE_BY_FOUR, PILLAR_7, RING);
        due("kin(0, 0, true)", x.kin(0, 0, true), 2);
        due("kin(0, 2, true)", x.kin(0, 2, true), 1);
        due("kin(0, 0, false)", x.kin(0, 0, false), 0);
        due("kin(1, 0, true)", x.kin(1, 0, true), 8);
        due("kin(1, 2, true)", x.kin(1, 2, true), 5);
        due("kin(1, 0, false)", x.kin(1, 0, false), 3);
        due("kin(1, 1, false)", x.kin(1, 1, false), 2);
        due("within 7, across", x.kin(2, 0, true), 14);
        due("within 7, down", x.kin(4, 0, true), 14);
        due("12 at most", x.kin(3, 0, true), 0);
        due("kin(3, 0, false)", x.kin(3, 0, false), 12);
        due("in the hole, too", x.kin(5, 0, true), 13);
        due("kin(5, 2, true)", x.kin(5, 2, true), 3);
        due("kin(6, 0, true)", x.kin(6, 0, true), -2);
        due("kin(0, 3, true)", x.kin(0, 3, true), NONE);
        due("kin(6, -1, true)", x.kin(6, -1, true), NONE);
        due("kin(8, 0, true)", x.kin(8, 0, true), NONE);
    }

    private static void kinAt() {
        promise(19);
        CellFigures x = with(ONE, T, ANGLE);
        due("kinAt(0, 0, true, 0)", x.kinAt(0, 0, true, 0), TWO_ACROSS);
        due("kinAt(0, 0, true, 1)", x.kinAt(0, 0, true, 1), TWO_DOWN);
        due("kinAt(0, 0, true, 2)", x.kinAt(0, 0, true, 2), -3);
        due("kinAt(0, 0, false, 0)", x.kinAt(0, 0, false, 0), -3);
        long[] shrunk = {7, 515, 259};
        java.util.Arrays.sort(shrunk);
        for (int k = 0; k < 3; k++) due("kinAt(1, 0, false, " + k + ")", x.kinAt(1, 0, false, k), shrunk[k]);
        long[] grown = {263, 519, 771, 774};
        for (int k = 0; k < 4; k++) due("kinAt(2, 2, true, " + k + ")", x.kinAt(2, 2, true, k), grown[k]);
        due("kinAt(2, 2, true, 4)", x.kinAt(2, 2, true, 4), -3);
        due("kinAt(3, 0, true, 0)", x.kinAt(3, 0, true, 0), -2);
        due("kinAt(3, 0, true, -1)", x.kinAt(3, 0, true, -1), NONE);
        due("kinAt(0, 3, true, 0)", x.kinAt(0, 3, true, 0), NONE);
        due("kinAt(8, 0, true, 0)", x.kinAt(8, 0, true, 0), NONE);
        due("kinAt(0, 0, true, greatest)", x.kinAt(0, 0, true, Integer.MAX_VALUE), -3);
    }

    private static void way() {
        promise(20);
        CellFigures x = with(BAR_4, SQUARE, T, PILLAR_7, ONE, TWO_DOWN, 63);
        due("way(0, 0)", x.way(0, 0), 0);
        due("way(0, 1)", x.way(0, 1), 2);
        due("way(1, 0)", x.way(1, 0), 2);
        due("way(0, 2)", x.way(0, 2), 1);
        due("way(4, 4)", x.way(4, 4), 0);
        due("way(5, 5)", x.way(5, 5), 0);
        x.put(7, 7 + (7 << 8));
        due("from six in a row to two by three", x.way(6, 7), 3);
        x.put(7, x.turn(0, 3));
        due("turned ones are one", x.way(7, 0), 0);
        due("not of as many", x.way(0, 3), -3);
        due("more than 6", x.way(3, 3), -3);
        x.take(7);
        due("way(0, 7)", x.way(0, 7), -2);
        due("way(7, 3)", x.way(7, 3), -2);
        due("way(0, 8)", x.way(0, 8), NONE);
        due("way(-1, 7)", x.way(-1, 7), NONE);
    }

    private static void farthest() {
        promise(21);
        CellFigures x = with(T, ONE, BAR_4, BAR_7, 63, BAR_3);
        due("farthest(0, true)", x.farthest(0, true), 1);
        due("farthest(0, false)", x.farthest(0, false), 4);
        due("farthest(1, true)", x.farthest(1, true), 0);
        due("farthest(1, false)", x.farthest(1, false), 1);
        due("farthest(2, true)", x.farthest(2, true), 2);
        // From four in a row, a step leaves three of them: S leaves two, the square two.
        due("farthest(2, false)", x.farthest(2, false), 2);
        due("farthest(5, true)", x.farthest(5, true), 1);
        due("farthest(5, false)", x.farthest(5, false), 1);
        due("from six in a row", x.farthest(4, true), 4);
        due("farthest(3, true)", x.farthest(3, true), -3);
        due("farthest(6, true)", x.farthest(6, true), -2);
        due("farthest(8, true)", x.farthest(8, true), NONE);
    }

    private static void drawn() {
        promise(22);
        CellFigures x = new CellFigures();
        due("drawn(0, 0, 1)", x.drawn(0, 0, 1), 1);
        // X is 13849, by 4 it is 3462: of four places the one at 2, to the right.
        due("drawn(0, 0, 2)", x.drawn(0, 0, 2), 3);
        // X is 48742, by 4 it is 12185: of six places the one at 5, below to the right.
        due("drawn(0, 0, 3)", x.drawn(0, 0, 3), 515);
        due("the lowest 16 bits", x.drawn(1, 0x7FFF0000, 3), 515);
        due("a negative one", x.drawn(1, -65536, 3), 515);
        due("number(0, 0)", x.number(0, 0), 515);
        long twelve = x.drawn(2, 4711, 12);
        due("drawn of 12", twelve, Model.numberOf(Model.lots(4711, 12)));
        due("told(2, 0)", x.told(2, 0), 12);
        due("drawn(0, 1, 0)", x.drawn(0, 1, 0), NONE);
        due("drawn(0, 1, 13)", x.drawn(0, 1, 13), NONE);
        due("drawn(8, 1, 1)", x.drawn(8, 1, 1), NONE);
        due("number(0, 0) stays", x.number(0, 0), 515);
        for (int seed = 0; seed < 400; seed++) {
            due("drawn(3, " + seed + ", 12)", x.drawn(3, seed * 163, 12), Model.numberOf(Model.lots(seed * 163, 12)));
        }
    }

    private static void line() {
        promise(23);
        CellFigures x = with(ONE, T, CROSS, RING, OPEN_RING, U);
        String[] lines = {"0123", "0001212323", "010121232303"};
        for (int d = 0; d < 3; d++) {
            for (int i = 0; i < lines[d].length(); i++) due("line(" + d + ", " + i + ")", x.line(d, i), lines[d].charAt(i) - '0');
            due("behind the last", x.line(d, lines[d].length()), -4);
        }
        String u = "010301122233";
        for (int i = 0; i < 12; i++) due("line(5, " + i + ")", x.line(5, i), u.charAt(i) - '0');
        String longest = "00000001111112333332222223";
        CellFigures y = with(CORNER_12);
        for (int i = 0; i < 26; i++) due("the longest, " + i, y.line(0, i), longest.charAt(i) - '0');
        due("behind the longest", y.line(0, 26), -4);
        due("a cave is no hole", with(HOOK).line(0, 0), 0);
        due("line(1, greatest)", x.line(1, Integer.MAX_VALUE), -4);
        due("a hole", x.line(3, 0), -3);
        due("a hole and two aslant", x.line(4, 99), -3);
        due("line(6, 0)", x.line(6, 0), -2);
        due("line(6, -1)", x.line(6, -1), NONE);
        due("line(8, 0)", x.line(8, 0), NONE);
        // The first cell of row 0 is not at x 0 here.
        x.put(6, 6 + (3 << 8));
        String s = "0012122303";
        for (int i = 0; i < 10; i++) due("line(6, " + i + ")", x.line(6, i), s.charAt(i) - '0');
    }

    private static void tiles() {
        promise(24);
        CellFigures x = with(ONE, T, U, RING, SQUARE);
        int[] one = {2, 2, 0, 1, 1, 0};
        int[] t = {3, 0, 1, 1, 2, 2};
        for (int what = 0; what < 6; what++) {
            due("tiles(0, " + what + ")", x.tiles(0, what), one[what]);
            due("tiles(1, " + what + ")", x.tiles(1, what), t[what]);
            due("tiles(2, " + what + ")", x.tiles(2, what), what < 2 ? 0 : -4);
            due("tiles(3, " + what + ")", x.tiles(3, what), -3);
            due("tiles(5, " + what + ")", x.tiles(5, what), -2);
        }
        // Of the square's line 00112233 from a corner 1 1 2, 2 1 1 and 2 2 0, from the middle of a side 1 2 1, twice each.
        due("tiles(4, 1)", x.tiles(4, 1), 2);
        due("tiles(4, 0)", x.tiles(4, 0), 8);
        due("tiles(4, 2)", x.tiles(4, 2), 0);
        due("tiles(4, 3)", x.tiles(4, 3), 1);
        // The corner of twelve tiles as every such one does: what stands 13 on from each side is its other side.
        Model model = new ModelWith(CORNER_12).model;
        for (int what = 0; what < 6; what++) due("of the corner, " + what, with(CORNER_12).tiles(0, what), model.tiles(0, what));
        due("the corner of twelve tiles", with(CORNER_12).tiles(0, 0) > 0, true);
        due("tiles(0, 6)", x.tiles(0, 6), NONE);
        due("tiles(5, -1)", x.tiles(5, -1), NONE);
        due("tiles(8, 0)", x.tiles(8, 0), NONE);
    }

    private static void tilers() {
        promise(25);
        CellFigures x = new CellFigures();
        // As they are known: 1, 1, 2, 5, 9, 24, 41 free ones tile by moves alone.
        int[] free = {1, 1, 2, 5, 9, 24, 41};
        for (int n = 1; n <= 7; n++) due("tilers(" + n + ", 2)", x.tilers(n, 2), free[n - 1]);
        due("tilers(3, 0)", x.tilers(3, 0), 6);
        due("tilers(4, 0)", x.tilers(4, 0), 19);
        due("tilers(4, 1)", x.tilers(4, 1), 7);
        due("tilers(0, 0)", x.tilers(0, 0), NONE);
        due("tilers(8, 0)", x.tilers(8, 0), NONE);
        due("tilers(1, 3)", x.tilers(1, 3), NONE);
        due("tilers(1, -1)", x.tilers(1, -1), NONE);
    }

    private static void fill() {
        promise(26);
        CellFigures x = with(TWO_ACROSS, TWO_DOWN, ONE, T, ANGLE, BAR_7, SQUARE);
        due("twos in 2 by 2", x.fill(2, 2, 1, true), 2);
        due("twos in 2 by 2 as they are", x.fill(2, 2, 1, false), 1);
        due("each unlike one counts once", x.fill(2, 2, 3, true), 2);
        due("both in 2 by 6", x.fill(2, 6, 3, false), 13);
        due("twos in 4 by 4", x.fill(4, 4, 1, true), 36);
        due("twos in 4 by 6", x.fill(4, 6, 2, true), 281);
        due("twos in 3 by 3", x.fill(3, 3, 1, true), 0);
        due("ones in 6 by 6", x.fill(6, 6, 4, true), 1);
        due("ones and twos in 2 by 2", x.fill(2, 2, 5, true), 7);
        due("T in 4 by 4", x.fill(4, 4, 8, true), 2);
        due("T in 4 by 4 as it is", x.fill(4, 4, 8, false), 0);
        due("angles in 2 by 3", x.fill(2, 3, 16, true), 2);
        due("angles in 3 by 2", x.fill(3, 2, 16, true), 2);
        due("too wide", x.fill(6, 6, 32, true), 0);
        due("squares in 6 by 4", x.fill(6, 4, 64, false), 1);
        due("too many tries", x.fill(6, 6, 7, true), -3);
        due("one is empty", x.fill(6, 6, 128 + 7, true), -2);
        due("w 0", x.fill(0, 1, 128, true), NONE);
        due("w 7", x.fill(7, 1, 1, true), NONE);
        due("h 0", x.fill(1, 0, 1, true), NONE);
        due("h 7", x.fill(1, 7, 1, true), NONE);
        due("some 0", x.fill(1, 1, 0, true), NONE);
        due("some 256", x.fill(1, 1, 256, true), NONE);
        due("some -1", x.fill(1, 1, -1, true), NONE);
        x = with(1, 131855, 65793, 16843009);
        due("20000 tries just", x.fill(5, 4, 15, false), new ModelWith(1, 131855, 65793, 16843009).model.fill(5, 4, 15, false));
        due("20000 tries just, not refused", x.fill(5, 4, 15, false) > 0, true);
        x = with(1, 257, 33752580);
        due("20001 tries", x.fill(3, 6, 7, false), -3);
    }

    /** A model with figures in its drawers. */
    private static final class ModelWith {
        final Model model = new Model();

        ModelWith(long... numbers) {
            for (int d = 0; d < numbers.length; d++) model.put(d, numbers[d]);
        }
    }

    private static void vector() {
        promise(27);
        CellFigures x = with(ONE, T, U, RING);
        int[] one = {11, 11, 10, 11, 1};
        int[] t = {12, 11, 10, 12, 4};
        for (int what = 0; what < 5; what++) {
            due("vector(0, " + what + ")", x.vector(0, what), one[what]);
            due("vector(1, " + what + ")", x.vector(1, what), t[what]);
            due("vector(2, " + what + ")", x.vector(2, what), -4);
            due("vector(3, " + what + ")", x.vector(3, what), -3);
            due("vector(4, " + what + ")", x.vector(4, what), -2);
        }
        due("vector(0, 5)", x.vector(0, 5), NONE);
        due("vector(4, -1)", x.vector(4, -1), NONE);
        due("vector(8, 0)", x.vector(8, 0), NONE);
        x.put(5, THREE_BY_FOUR);
        due("the area is that of the figure", x.vector(5, 4), 12);
    }

    private static void owner() {
        promise(28);
        CellFigures x = with(ONE, T, U, RING);
        // By (1, 1) and (0, 1): (-20, 20) is 20 times back by the first and 40 times forth by the second.
        due("owner(0, -20, 20, 0)", x.owner(0, -20, 20, 0), 80);
        due("owner(0, -20, 20, 1)", x.owner(0, -20, 20, 1), 140);
        due("owner(0, -20, 20, 2)", x.owner(0, -20, 20, 2), 0);
        // By (2, 1) and (0, 2): (3, 2) is (1, 1) moved by the first, (0, 1) is (0, -1), (2, 0), (0, 0) or (2, 1) by others.
        due("owner(1, 3, 2, 0)", x.owner(1, 3, 2, 0), 101);
        due("owner(1, 3, 2, 1)", x.owner(1, 3, 2, 1), 100);
        due("owner(1, 3, 2, 2)", x.owner(1, 3, 2, 2), 9);
        due("owner(1, 0, 1, 0)", x.owner(1, 0, 1, 0), 99);
        due("owner(1, 0, 1, 1)", x.owner(1, 0, 1, 1), 101);
        due("owner(1, 0, 1, 2)", x.owner(1, 0, 1, 2), 2);
        due("no cutting", x.owner(2, 0, 0, 0), -4);
        due("no line", x.owner(3, 0, 0, 0), -3);
        due("empty", x.owner(4, 0, 0, 0), -2);
        due("what 3", x.owner(0, 0, 0, 3), NONE);
        due("what -1", x.owner(4, 0, 0, -1), NONE);
        due("x 21", x.owner(0, 21, 0, 0), NONE);
        due("x -21", x.owner(0, -21, 0, 0), NONE);
        due("y 21", x.owner(0, 0, 21, 0), NONE);
        due("y -21", x.owner(0, 0, -21, 0), NONE);
        due("drawer 8", x.owner(8, 0, 0, 0), NONE);
    }

    private static void partsOf(long number, long... want) {
        CellFigures x = with(number);
        for (int what = 0; what < 8; what++) due(number + ": part(0, " + what + ")", x.part(0, what), want[what]);
    }

    private static void part() {
        promise(29);
        partsOf(ONE, 1, 0, 0, 0, 0, 0, 1, 1);
        partsOf(TWO_DOWN, 2, 1, 1, 1, 1, 1, 1, 0);
        partsOf(BAR_3, 4, 0, 0, 0, 0, 2, 1, 1);
        partsOf(BAR_4, 8, 1, 1, 1, 1, 3, 1, 0);
        partsOf(SQUARE, 16, 2, 2, 2, 2, 2, 4, 0);
        partsOf(T, 12, 0, 0, 0, 0, 2, 1, 2);
        // L of four: a two across and a two aside of it, which are one by ONE-SIDED, not by FIXED.
        partsOf(L, 8, 1, 0, 1, 1, 3, 1, 0);
        // Two by three: two angles, turned by a half, in two ways; three across twice.
        partsOf(7 + (7 << 8), 208, 3, 1, 3, 3, 3, 15, 0);
        partsOf(RING, 512, 2, 0, 4, 4, 4, 8, 0);
        // An L and its mirror image hand in hand are one by FREE alone.
        partsOf(63 + (33 << 8), 128, 1, 0, 0, 1, 7, 1, 0);
        due("trees of three by four", with(THREE_BY_FOUR).part(0, 6), 2415);
        due("twos in three by four", with(THREE_BY_FOUR).part(0, 1), 11);
        CellFigures x = with(T);
        due("part(1, 0)", x.part(1, 0), -2);
        due("part(0, 8)", x.part(0, 8), NONE);
        due("part(1, -1)", x.part(1, -1), NONE);
        due("part(8, 0)", x.part(8, 0), NONE);
    }

    private static void inside() {
        promise(30);
        CellFigures x = with(ONE, TWO_ACROSS, T, SQUARE, ANGLE, RING);
        due("inside(0, 2, false)", x.inside(0, 2, false), 4);
        due("inside(0, 2, true)", x.inside(0, 2, true), 4);
        due("inside(1, 2, false)", x.inside(1, 2, false), 2);
        due("inside(1, 2, true)", x.inside(1, 2, true), 3);
        due("inside(2, 1, true)", x.inside(2, 1, true), 0);
        due("inside(4, 3, false)", x.inside(4, 3, false), 1);
        due("inside(4, 3, true)", x.inside(4, 3, true), 4);
        due("inside(3, 5, true)", x.inside(3, 5, true), 0);
        due("inside(4, 5, true)", x.inside(4, 5, true), 4);
        due("inside(5, 5, true)", x.inside(5, 5, true), 1);
        due("inside(6, 0, true)", x.inside(6, 0, true), -2);
        due("inside(0, 6, true)", x.inside(0, 6, true), -2);
        due("inside(8, 6, true)", x.inside(8, 6, true), NONE);
        due("inside(6, 8, true)", x.inside(6, 8, true), NONE);
    }

    private static void common() {
        promise(31);
        CellFigures x = with(BAR_4, SQUARE, T, L, RING, ONE, 1 + (7 << 8));
        due("common(0, 1)", x.common(0, 1), 2);
        due("common(2, 1)", x.common(2, 1), 3);
        due("common(1, 2)", x.common(1, 2), 3);
        due("common(0, 2)", x.common(0, 2), 3);
        due("in some turn", x.common(3, 6), 4);
        due("what is common hangs together", x.common(0, 4), 3);
        due("common(4, 4)", x.common(4, 4), 8);
        due("common(5, 4)", x.common(5, 4), 1);
        due("common(7, 4)", x.common(7, 4), -2);
        due("common(4, 7)", x.common(4, 7), -2);
        due("common(7, 8)", x.common(7, 8), NONE);
        due("common(-1, 7)", x.common(-1, 7), NONE);
    }

    private static void keepAndBack() {
        promise(32);
        CellFigures x = new CellFigures();
        for (int i = 1; i <= 10; i++) {
            x.put(0, (1 << i % 7 + 1) - 1);
            due("keep()", x.keep(), i);
        }
        due("an 11th keep()", x.keep(), NONE);
        promise(33);
        x.take(0);
        x.put(1, T);
        x.feed(0, 0, 0, 0, 0);
        for (int i = 10; i >= 1; i--) {
            due("back()", x.back(), i - 1);
            due("number(0, 0)", x.number(0, 0), (1 << i % 7 + 1) - 1);
            due("told(1, 0)", x.told(1, 0), -2);
        }
        due("back()", x.back(), NONE);
        due("the tape is not kept", x.count(1), 20);
        due("number(0, 0) stays", x.number(0, 0), 3);
        due("keep()", x.keep(), 1);
    }

    private static void join() {
        promise(34);
        CellFigures x = with(BAR_3, ONE, TWO_DOWN, BAR_7, THREE_BY_FOUR);
        due("join(0, 1, 1, 1, true)", x.join(0, 1, 1, 1, true), 4);
        due("number", x.number(0, 0), T);
        due("to the left and up", x.join(0, 2, -1, -1, true), 6);
        due("number", x.number(0, 0), 1 + (15 << 8) + (4 << 16));
        due("cells of both count once", x.join(0, 2, 0, 0, true), 6);
        due("number stays", x.number(0, 0), 1 + (15 << 8) + (4 << 16));
        due("those go, it falls apart", x.join(0, 2, 1, 1, false), -3);
        due("some of those go", x.join(0, 2, 0, -1, false), 5);
        due("moved to 0, 0", x.number(0, 0), 15 + (4 << 8));
        due("none of those is there", x.join(0, 2, 7, 7, false), 5);
        due("none of those is there", x.join(0, 3, -7, 0, false), 5);
        due("it falls apart", x.join(0, 2, 2, 0, false), -3);
        due("nothing is left", x.join(1, 1, 0, 0, false), -3);
        due("itself, moved", x.join(1, 1, 1, 0, true), 2);
        due("not hanging together", x.join(1, 2, 3, 0, true), -3);
        due("aslant", x.join(1, 2, 2, 1, true), -3);
        due("too wide", x.join(3, 1, 6, 0, true), -3);
        due("too wide, to the left", x.join(3, 1, -1, 0, true), -3);
        due("13 cells", x.join(4, 2, 4, 0, true), -3);
        due("just seven wide", x.join(1, 3, 0, 1, true), 9);
        due("too high", with(PILLAR_7, ONE).join(0, 1, 0, 7, true), -3);
        due("join(0, 5, 0, 0, true)", x.join(0, 5, 0, 0, true), -2);
        due("join(5, 0, 0, 0, false)", x.join(5, 0, 0, 0, false), -2);
        due("u 8", x.join(5, 0, 8, 0, true), NONE);
        due("u -8", x.join(5, 0, -8, 0, true), NONE);
        due("v 8", x.join(0, 1, 0, 8, true), NONE);
        due("v -8", x.join(0, 1, 0, -8, false), NONE);
        due("join(8, 0, ..)", x.join(8, 0, 0, 0, true), NONE);
        due("join(0, 8, ..)", x.join(0, 8, 0, 0, true), NONE);
        due("number stays", x.number(0, 0), 15 + (4 << 8));
    }

    private static void swap() {
        promise(35);
        CellFigures x = with(T, L, T);
        due("swap(0, 1)", x.swap(0, 1), 1);
        due("number(0, 0)", x.number(0, 0), L);
        due("number(1, 0)", x.number(1, 0), T);
        due("swap(1, 2)", x.swap(1, 2), 0);
        due("swap(1, 1)", x.swap(1, 1), 0);
        due("swap(3, 4)", x.swap(3, 4), 0);
        due("swap(3, 3)", x.swap(3, 3), 0);
        due("swap(0, 7)", x.swap(0, 7), 1);
        due("number(0, 0)", x.number(0, 0), -2);
        due("number(7, 0)", x.number(7, 0), L);
        due("swap(8, 0)", x.swap(8, 0), NONE);
        due("swap(0, -1)", x.swap(0, -1), NONE);
    }

    private static void share() {
        promise(36);
        CellFigures x = with(TWO_ACROSS, U, ONE, BAR_7, PILLAR_7);
        due("one above the other", x.share(0, 0, 0, 1), 2);
        due("one above the other", x.share(0, 0, 0, -1), 2);
        due("shifted", x.share(0, 0, 1, 1), 1);
        due("side by side", x.share(0, 0, 2, 0), 1);
        due("aslant", x.share(0, 0, 2, 1), 0);
        due("far", x.share(0, 0, 7, 7), 0);
        due("they overlap", x.share(0, 0, 1, 0), -3);
        due("between", x.share(1, 2, 1, 0), 3);
        due("the same, the other way", x.share(2, 1, -1, 0), 3);
        due("seven on", x.share(3, 3, 7, 0), 1);
        due("seven back", x.share(3, 3, -7, 0), 1);
        due("seven down", x.share(4, 4, 0, 7), 1);
        due("beside", x.share(4, 4, 1, 0), 7);
        due("no row runs into the next", x.share(4, 3, -7, 1), 1);
        due("share(0, 5, ..)", x.share(0, 5, 0, 0), -2);
        due("share(5, 0, ..)", x.share(5, 0, 0, 0), -2);
        due("u 8", x.share(5, 0, 8, 0), NONE);
        due("u -8", x.share(0, 0, -8, 0), NONE);
        due("v 8", x.share(0, 0, 0, 8), NONE);
        due("v -8", x.share(0, 0, 0, -8), NONE);
        due("share(8, 5, ..)", x.share(8, 5, 0, 0), NONE);
        due("share(5, 8, ..)", x.share(5, 8, 0, 0), NONE);
    }

    private static void touchAll(CellFigures x, int d, int e, int... want) {
        for (int what = 0; what < 6; what++) due("touch(" + d + ", " + e + ", " + what + ")", x.touch(d, e, what), want[what]);
    }

    private static void touch() {
        promise(37);
        CellFigures x = with(TWO_ACROSS, ONE, U, BAR_7);
        touchAll(x, 0, 0, 3, 8, 2, 10, 9, 4);
        touchAll(x, 1, 1, 1, 4, 1, 10, 9, 2);
        touchAll(x, 2, 1, 5, 10, 3, 11, 10, 6);
        touchAll(x, 1, 2, 5, 10, 3, 9, 10, 6);
        touchAll(x, 3, 3, 13, 28, 7, 10, 9, 14);
        x.put(4, PILLAR_7);
        touchAll(x, 4, 4, 13, 28, 7, 9, 10, 14);
        x.take(4);
        due("touch(4, 0, 0)", x.touch(4, 0, 0), -2);
        due("touch(0, 4, 5)", x.touch(0, 4, 5), -2);
        due("touch(0, 4, 6)", x.touch(0, 4, 6), NONE);
        due("touch(0, 0, -1)", x.touch(0, 0, -1), NONE);
        due("touch(8, 0, 0)", x.touch(8, 0, 0), NONE);
        due("touch(0, 8, 0)", x.touch(0, 8, 0), NONE);
    }

    private static void count() {
        promise(38);
        CellFigures x = with(T, 0, 0, RING, 0, 0, 0, ONE);
        x.feed(0, 0, 0, 0, 0);
        due("count(0)", x.count(0), 1 + 8 + 128);
        due("count(1)", x.count(1), 20);
        due("count(2)", x.count(2), 13);
        due("count(3)", x.count(3), NONE);
        due("count(-1)", x.count(-1), NONE);
    }
}

/**
 * Figures of cells, kept in eight drawers: read from texts, turned, changed, listed, compared and tiled.
 *
 * <p>A figure is held as its NUMBER throughout (the bit 8 y + x of each cell), and 0 stands for an empty
 * drawer. Column 7 and row 7 of such a board are free in every figure; shifts rely on that gap, because
 * a cell that leaves its row falls into it and can be masked away.
 *
 * <p>All rows are made with the object and used again, so that no call makes anything.
 */
public final class CellFigures {
    public static final int NONE = -1;

    private static final int EMPTY = -2;
    private static final int REFUSED = -3;
    private static final int LACKING = -4;

    private static final int DRAWERS = 8;
    private static final int WIDEST = 7;
    private static final int MOST_CELLS = 12;
    private static final int MOST_FED = 120;
    private static final int FED_AT_ONCE = 20;
    private static final int LONGEST_TEXT = 60;
    private static final int MOST_KEPT = 10;
    private static final int LARGEST_LISTED = 7;
    private static final int LARGEST_ON_WAY = 6;
    private static final int FREE_KIND = 2;
    private static final int LAST_TRAIT = 14;
    private static final int FARTHEST_MOVE = 7;

    private final byte[] tape = new byte[MOST_FED];
    private final long[] drawers = new long[DRAWERS];
    private final long[] kept = new long[MOST_KEPT * DRAWERS];
    private final Reader reader = new Reader();
    private final Row row = new Row();
    private final Outline outline = new Outline();
    private final Catalogue catalogue = new Catalogue(outline);
    private final Ways ways = new Ways(catalogue);
    private final Filling filling = new Filling();
    private final Parts parts = new Parts();
    private final Meeting meeting = new Meeting();
    private int fed;
    private int timesKept;

    public CellFigures() {
        fed = 0;
        timesKept = 0;
    }

    public int feed(int a, int b, int c, int d, int e) {
        if (fed + FED_AT_ONCE > MOST_FED) {
            return NONE;
        }
        append(a);
        append(b);
        append(c);
        append(d);
        append(e);
        return fed;
    }

    public int figure(int d, int n) {
        if (!isDrawer(d) || !within(n, 1, LONGEST_TEXT) || n > fed) {
            return NONE;
        }
        fed = 0;
        int fault = reader.read(tape, n);
        if (fault != 0) {
            return fault;
        }
        return store(d, reader.board());
    }

    public boolean put(int d, long number) {
        if (!isDrawer(d) || !Grid.isFigure(number)) {
            return false;
        }
        drawers[d] = number;
        return true;
    }

    public int take(int d) {
        if (!isDrawer(d)) {
            return NONE;
        }
        int held = drawers[d] == 0 ? 0 : 1;
        drawers[d] = 0;
        return held;
    }

    public int told(int d, int what) {
        if (!isDrawer(d) || !within(what, 0, LAST_TRAIT)) {
            return NONE;
        }
        return drawers[d] == 0 ? EMPTY : Traits.of(drawers[d], what);
    }

    public int cell(int d, int x, int y) {
        if (!isDrawer(d) || !within(x, 0, WIDEST - 1) || !within(y, 0, WIDEST - 1)) {
            return NONE;
        }
        if (drawers[d] == 0) {
            return EMPTY;
        }
        return Grid.has(drawers[d], x, y) ? 1 : 0;
    }

    public long number(int d, int kind) {
        if (!isDrawer(d) || !isKind(kind)) {
            return NONE;
        }
        return drawers[d] == 0 ? EMPTY : Grid.least(drawers[d], kind);
    }

    public long turn(int d, int t) {
        if (!isDrawer(d) || !within(t, 0, 7)) {
            return NONE;
        }
        if (drawers[d] == 0) {
            return EMPTY;
        }
        drawers[d] = Grid.turned(drawers[d], t);
        return drawers[d];
    }

    public int alike(int d, int e, int kind) {
        if (!isDrawer(d) || !isDrawer(e) || !isKind(kind)) {
            return NONE;
        }
        if (drawers[d] == 0 || drawers[e] == 0) {
            return EMPTY;
        }
        return Grid.least(drawers[d], kind) == Grid.least(drawers[e], kind) ? 1 : 0;
    }

    public int change(int d, int x, int y, boolean is) {
        if (!isDrawer(d) || !within(x, -1, WIDEST) || !within(y, -1, WIDEST)) {
            return NONE;
        }
        if (drawers[d] == 0) {
            return EMPTY;
        }
        if (Grid.has(drawers[d], x, y) == is) {
            return REFUSED;
        }
        // A place is a board of one cell, but for the places beyond the board, which are moved to there.
        return is ? store(d, Grid.united(drawers[d], 1L, x, y)) : store(d, drawers[d] & ~Grid.moved(1L, x, y));
    }

    public int list(int n, int kind) {
        if (!isList(n, kind)) {
            return NONE;
        }
        catalogue.prepare(n);
        return catalogue.size(n, kind);
    }

    public long listed(int n, int kind, int k) {
        if (!isList(n, kind) || k < 0) {
            return NONE;
        }
        catalogue.prepare(n);
        return k < catalogue.size(n, kind) ? catalogue.at(n, kind, k) : EMPTY;
    }

    public int place(int d, int kind) {
        if (!isDrawer(d) || !isKind(kind)) {
            return NONE;
        }
        if (drawers[d] == 0) {
            return EMPTY;
        }
        int n = Long.bitCount(drawers[d]);
        if (n > LARGEST_LISTED) {
            return REFUSED;
        }
        catalogue.prepare(n);
        return catalogue.indexOf(n, kind, Grid.least(drawers[d], kind));
    }

    public int many(int n, int kind, int what, int low, int high) {
        if (!isList(n, kind) || !within(what, 0, LAST_TRAIT) || high < low) {
            return NONE;
        }
        catalogue.prepare(n);
        int size = catalogue.size(n, kind);
        int matches = 0;
        for (int k = 0; k < size; k++) {
            if (within(catalogue.trait(n, kind, k, what), low, high)) {
                matches++;
            }
        }
        return matches;
    }

    public long found(int n, int kind, int what, int low, int high, int k) {
        if (!isList(n, kind) || !within(what, 0, LAST_TRAIT) || high < low || k < 0) {
            return NONE;
        }
        catalogue.prepare(n);
        int size = catalogue.size(n, kind);
        int ahead = k;
        for (int i = 0; i < size; i++) {
            if (within(catalogue.trait(n, kind, i, what), low, high)) {
                if (ahead == 0) {
                    return catalogue.at(n, kind, i);
                }
                ahead--;
            }
        }
        return EMPTY;
    }

    public int crowd(int n, int kind, int what, boolean most) {
        if (!isList(n, kind) || !within(what, 0, LAST_TRAIT)) {
            return NONE;
        }
        catalogue.prepare(n);
        return catalogue.crowds(n, kind, what, most);
    }

    public int kin(int d, int kind, boolean more) {
        if (!isDrawer(d) || !isKind(kind)) {
            return NONE;
        }
        if (drawers[d] == 0) {
            return EMPTY;
        }
        Growth.gather(drawers[d], kind, more, row);
        return row.size();
    }

    public long kinAt(int d, int kind, boolean more, int k) {
        if (!isDrawer(d) || !isKind(kind) || k < 0) {
            return NONE;
        }
        if (drawers[d] == 0) {
            return EMPTY;
        }
        Growth.gather(drawers[d], kind, more, row);
        return k < row.size() ? row.at(k) : REFUSED;
    }

    public int way(int d, int e) {
        if (!isDrawer(d) || !isDrawer(e)) {
            return NONE;
        }
        if (drawers[d] == 0 || drawers[e] == 0) {
            return EMPTY;
        }
        int n = Long.bitCount(drawers[d]);
        if (n != Long.bitCount(drawers[e]) || n > LARGEST_ON_WAY) {
            return REFUSED;
        }
        catalogue.prepare(n);
        ways.prepare(n);
        return ways.steps(n, drawers[d], drawers[e]);
    }

    public int farthest(int d, boolean far) {
        if (!isDrawer(d)) {
            return NONE;
        }
        if (drawers[d] == 0) {
            return EMPTY;
        }
        int n = Long.bitCount(drawers[d]);
        if (n > LARGEST_ON_WAY) {
            return REFUSED;
        }
        catalogue.prepare(n);
        ways.prepare(n);
        return ways.edge(n, drawers[d], far);
    }

    public long drawn(int d, int seed, int n) {
        if (!isDrawer(d) || !within(n, 1, MOST_CELLS)) {
            return NONE;
        }
        drawers[d] = Growth.byLots(seed, n);
        return drawers[d];
    }

    public int line(int d, int i) {
        if (!isDrawer(d) || i < 0) {
            return NONE;
        }
        if (drawers[d] == 0) {
            return EMPTY;
        }
        if (!outline.trace(drawers[d])) {
            return REFUSED;
        }
        return i < outline.length() ? outline.letter(i) : LACKING;
    }

    public int tiles(int d, int what) {
        if (!isDrawer(d) || !within(what, 0, 5)) {
            return NONE;
        }
        if (drawers[d] == 0) {
            return EMPTY;
        }
        if (!outline.trace(drawers[d])) {
            return REFUSED;
        }
        outline.cut();
        return what > 1 && outline.cuttings() == 0 ? LACKING : outline.cutting(what);
    }

    public int tilers(int n, int kind) {
        if (!isList(n, kind)) {
            return NONE;
        }
        catalogue.prepare(n);
        int size = catalogue.size(n, kind);
        int tiling = 0;
        for (int k = 0; k < size; k++) {
            tiling += catalogue.trait(n, kind, k, Catalogue.TILES);
        }
        return tiling;
    }

    public int fill(int w, int h, int some, boolean turned) {
        if (!within(w, 1, Filling.LONGEST) || !within(h, 1, Filling.LONGEST) || !within(some, 1, 255)) {
            return NONE;
        }
        row.clear();
        for (int d = 0; d < DRAWERS; d++) {
            if ((some >> d & 1) != 0) {
                if (drawers[d] == 0) {
                    return EMPTY;
                }
                Growth.addForms(drawers[d], turned, row);
            }
        }
        int found = filling.search(w, h, row);
        return found < 0 ? REFUSED : found;
    }

    public int vector(int d, int what) {
        if (!isDrawer(d) || !within(what, 0, 4)) {
            return NONE;
        }
        int refusal = prepareMoves(d);
        return refusal != 0 ? refusal : outline.move(what);
    }

    public int owner(int d, int x, int y, int what) {
        if (!isDrawer(d) || !within(x, -20, 20) || !within(y, -20, 20) || !within(what, 0, 2)) {
            return NONE;
        }
        int refusal = prepareMoves(d);
        return refusal != 0 ? refusal : outline.copyAt(drawers[d], x, y, what);
    }

    public long part(int d, int what) {
        if (!isDrawer(d) || !within(what, 0, 7)) {
            return NONE;
        }
        return drawers[d] == 0 ? EMPTY : parts.of(drawers[d], what);
    }

    public int inside(int d, int e, boolean turned) {
        if (!isDrawer(d) || !isDrawer(e)) {
            return NONE;
        }
        if (drawers[d] == 0 || drawers[e] == 0) {
            return EMPTY;
        }
        row.clear();
        Growth.addForms(drawers[d], turned, row);
        return Meeting.placings(row, drawers[e]);
    }

    public int common(int d, int e) {
        if (!isDrawer(d) || !isDrawer(e)) {
            return NONE;
        }
        if (drawers[d] == 0 || drawers[e] == 0) {
            return EMPTY;
        }
        row.clear();
        Growth.addForms(drawers[d], true, row);
        return Meeting.largestCommon(row, drawers[e]);
    }

    public int keep() {
        if (timesKept >= MOST_KEPT) {
            return NONE;
        }
        System.arraycopy(drawers, 0, kept, timesKept * DRAWERS, DRAWERS);
        timesKept++;
        return timesKept;
    }

    public int back() {
        if (timesKept <= 0) {
            return NONE;
        }
        timesKept--;
        System.arraycopy(kept, timesKept * DRAWERS, drawers, 0, DRAWERS);
        return timesKept;
    }

    public int join(int d, int e, int u, int v, boolean more) {
        if (!isDrawer(d) || !isDrawer(e) || !isMove(u, v)) {
            return NONE;
        }
        if (drawers[d] == 0 || drawers[e] == 0) {
            return EMPTY;
        }
        return more
            ? store(d, Grid.united(drawers[d], drawers[e], u, v))
            : store(d, drawers[d] & ~Grid.moved(drawers[e], u, v));
    }

    public int swap(int d, int e) {
        if (!isDrawer(d) || !isDrawer(e)) {
            return NONE;
        }
        if (drawers[d] == drawers[e]) {
            return 0;
        }
        long first = drawers[d];
        drawers[d] = drawers[e];
        drawers[e] = first;
        return 1;
    }

    public int share(int d, int e, int u, int v) {
        if (!isDrawer(d) || !isDrawer(e) || !isMove(u, v)) {
            return NONE;
        }
        if (drawers[d] == 0 || drawers[e] == 0) {
            return EMPTY;
        }
        if (Meeting.overlap(drawers[d], drawers[e], u, v) > 0) {
            return REFUSED;
        }
        return Meeting.sharedSides(drawers[d], drawers[e], u, v);
    }

    public int touch(int d, int e, int what) {
        if (!isDrawer(d) || !isDrawer(e) || !within(what, 0, 5)) {
            return NONE;
        }
        if (drawers[d] == 0 || drawers[e] == 0) {
            return EMPTY;
        }
        meeting.measure(drawers[d], drawers[e]);
        return meeting.measured(what);
    }

    public int count(int what) {
        if (!within(what, 0, 2)) {
            return NONE;
        }
        if (what == 1) {
            return fed;
        }
        int held = 0;
        int cells = 0;
        for (int d = 0; d < DRAWERS; d++) {
            held |= drawers[d] == 0 ? 0 : 1 << d;
            cells += Long.bitCount(drawers[d]);
        }
        return what == 0 ? held : cells;
    }

    private static boolean within(int value, int low, int high) {
        return low <= value && value <= high;
    }

    private static boolean isDrawer(int d) {
        return within(d, 0, DRAWERS - 1);
    }

    private static boolean isKind(int kind) {
        return within(kind, 0, FREE_KIND);
    }

    private static boolean isList(int n, int kind) {
        return within(n, 1, LARGEST_LISTED) && isKind(kind);
    }

    private static boolean isMove(int u, int v) {
        return within(u, -FARTHEST_MOVE, FARTHEST_MOVE) && within(v, -FARTHEST_MOVE, FARTHEST_MOVE);
    }

    private void append(int word) {
        for (int shift = 24; shift >= 0; shift -= 8) {
            if (fed < tape.length) {
                tape[fed] = (byte) (word >>> shift);
                fed++;
            }
        }
    }

    /** Puts the cells of a board into a drawer if they are a figure once moved: how many, or the refusal. */
    private int store(int d, long board) {
        long settled = Grid.settled(board);
        if (!Grid.isFigure(settled)) {
            return REFUSED;
        }
        drawers[d] = settled;
        return Long.bitCount(settled);
    }

    /** Finds the first cutting of a drawer's figure and its moves: 0, or why there are none. */
    private int prepareMoves(int d) {
        if (drawers[d] == 0) {
            return EMPTY;
        }
        if (!outline.trace(drawers[d])) {
            return REFUSED;
        }
        outline.cut();
        if (outline.cuttings() == 0) {
            return LACKING;
        }
        outline.findMoves();
        return 0;
    }

    /** Boards of eight by eight places, a bit each. */
    private static final class Grid {
        static final long COLUMN = 0x0101010101010101L;
        static final long ROW = 0xFFL;
        static final long SEVEN_COLUMNS = 0x7F7F7F7F7F7F7F7FL;
        static final long SEVEN_ROWS = 0x00FFFFFFFFFFFFFFL;
        static final long SEVEN_BY_SEVEN = SEVEN_COLUMNS & SEVEN_ROWS;
        static final int PLACES = 64;

        /** Where the lowest bit stands; 64 if there is none. */
        static int lowest(long board) {
            return Long.bitCount((board & -board) - 1);
        }

        static boolean has(long board, int x, int y) {
            return within(x, 0, 7) && within(y, 0, 7) && (board >>> (8 * y + x) & 1) != 0;
        }

        /** The columns that hold a cell, as the bits of one row. */
        static long columns(long board) {
            long flat = board | board >>> 32;
            flat |= flat >>> 16;
            flat |= flat >>> 8;
            return flat & ROW;
        }

        /** How wide a figure is: no column between may be empty, as it hangs together. */
        static int width(long figure) {
            return Long.bitCount(columns(figure));
        }

        static int height(long figure) {
            long thin = figure | figure >>> 4;
            thin |= thin >>> 2;
            thin |= thin >>> 1;
            return Long.bitCount(thin & COLUMN);
        }

        static long settled(long board) {
            if (board == 0) {
                return 0;
            }
            long risen = board >>> (Long.bitCount((board & -board) - 1) & 56);
            long columns = columns(risen);
            return risen >>> Long.bitCount((columns & -columns) - 1);
        }

        /** The board moved by (u, v); what leaves the eight by eight places is lost. */
        static long moved(long board, int u, int v) {
            if (!within(u, -7, 7) || !within(v, -7, 7)) {
                return 0;
            }
            // Cells that would leave their row go first, lest the shift carry them into the next one.
            long across = u >= 0
                ? (board & (ROW >>> u) * COLUMN) << u
                : (board & (ROW << -u & ROW) * COLUMN) >>> -u;
            return v >= 0 ? across << 8 * v : across >>> -8 * v;
        }

        /** Two figures' cells together, the second moved by (u, v); 0 if no seven by seven holds them. */
        static long united(long first, long second, int u, int v) {
            int left = Math.max(0, -u);
            int top = Math.max(0, -v);
            int right = Math.max(left + width(first), left + u + width(second));
            int bottom = Math.max(top + height(first), top + v + height(second));
            if (right > WIDEST || bottom > WIDEST) {
                return 0;
            }
            return moved(first, left, top) | moved(second, left + u, top + v);
        }

        /** The places beside those of a board; of cells in column 0 some lie in column 7 of another row. */
        static long around(long board) {
            return board << 1 | board >>> 1 | board << 8 | board >>> 8;
        }

        /** All of a ground (column 7 of it free) that hangs together with a start in it. */
        static long reach(long start, long ground) {
            long seen = start & ground;
            for (int i = 0; i < PLACES; i++) {
                long next = seen | around(seen) & ground;
                if (next == seen) {
                    return seen;
                }
                seen = next;
            }
            return seen;
        }

        static boolean hangs(long board) {
            return board != 0 && reach(board & -board, board) == board;
        }

        static boolean isFigure(long board) {
            return (board & ~SEVEN_BY_SEVEN) == 0
                && (board & ROW) != 0
                && (board & COLUMN) != 0
                && Long.bitCount(board) <= MOST_CELLS
                && hangs(board);
        }

        /** x comes to 7 - x: pairs of places, of twos and of fours change sides. */
        static long flipped(long board) {
            long b = board >>> 1 & 0x5555555555555555L | (board & 0x5555555555555555L) << 1;
            b = b >>> 2 & 0x3333333333333333L | (b & 0x3333333333333333L) << 2;
            return b >>> 4 & 0x0F0F0F0F0F0F0F0FL | (b & 0x0F0F0F0F0F0F0F0FL) << 4;
        }

        /** x and y change places: blocks of one, of two and of four places are swapped across. */
        static long transposed(long board) {
            long swap = (board ^ board >>> 7) & 0x00AA00AA00AA00AAL;
            long b = board ^ swap ^ swap << 7;
            swap = (b ^ b >>> 14) & 0x0000CCCC0000CCCCL;
            b = b ^ swap ^ swap << 14;
            swap = (b ^ b >>> 28) & 0x00000000F0F0F0F0L;
            return b ^ swap ^ swap << 28;
        }

        static long mirrored(long figure) {
            return settled(flipped(figure));
        }

        /** A quarter to the right: (x, y) comes to (-y, x). */
        static long quarter(long figure) {
            return settled(flipped(transposed(figure)));
        }

        static long turned(long figure, int t) {
            long now = t >= 4 ? mirrored(figure) : figure;
            for (int i = 0; i < (t & 3); i++) {
                now = quarter(now);
            }
            return now;
        }

        /** How many turns, from 0 on, make figures one by a kind. */
        static int turnsOf(int kind) {
            return kind == 0 ? 1 : kind == 1 ? 4 : 8;
        }

        static long least(long figure, int kind) {
            long least = figure;
            long now = figure;
            for (int t = 1; t < turnsOf(kind); t++) {
                now = t == 4 ? mirrored(figure) : quarter(now);
                least = Math.min(least, now);
            }
            return least;
        }

        static boolean isLeast(long figure, int kind) {
            long now = figure;
            for (int t = 1; t < turnsOf(kind); t++) {
                now = t == 4 ? mirrored(figure) : quarter(now);
                if (now < figure) {
                    return false;
                }
            }
            return true;
        }

        /** The figure moved by one each way where it may still grow to that side. */
        static long roomed(long figure) {
            long room = width(figure) < WIDEST ? figure << 1 : figure;
            return height(figure) < WIDEST ? room << 8 : room;
        }

        /** The places beside a figure, roomed, by which it stays within seven by seven. */
        static long sites(long figure, long room) {
            long allowed = ~room;
            if (width(figure) >= WIDEST) {
                allowed &= SEVEN_COLUMNS;
            }
            if (height(figure) >= WIDEST) {
                allowed &= SEVEN_ROWS;
            }
            return around(room) & allowed;
        }
    }

    /** What told() says of a figure. */
    private static final class Traits {
        static int of(long figure, int what) {
            switch (what) {
                case 0: return Long.bitCount(figure);
                case 1: return Grid.width(figure);
                case 2: return Grid.height(figure);
                case 3: return sides(figure);
                case 4: return holes(figure);
                case 5: return Long.bitCount(hollow(figure));
                case 6: return cutCells(figure);
                case 7: return beside(figure);
                case 8: return outer(figure);
                case 9: return Long.bitCount(threes(figure));
                case 10: return squares(figure);
                case 11: return isRowWhole(figure) ? 1 : 0;
                case 12: return isColumnWhole(figure) ? 1 : 0;
                case 13: return same(figure);
                case 14: return twos(figure);
                default: return NONE;
            }
        }

        static int twos(long figure) {
            return Long.bitCount(figure & figure >>> 1) + Long.bitCount(figure & figure >>> 8);
        }

        static int sides(long figure) {
            return 4 * Long.bitCount(figure) - 2 * twos(figure);
        }

        /** The places in holes: those from which the rim of the seven by seven isn't reached. */
        static long hollow(long figure) {
            long free = Grid.SEVEN_BY_SEVEN & ~figure;
            long rim = Grid.COLUMN | Grid.COLUMN << 6 | Grid.ROW | Grid.ROW << 48;
            return free & ~Grid.reach(rim, free);
        }

        static int holes(long figure) {
            long rest = hollow(figure);
            int holes = 0;
            for (int i = 0; i < Grid.PLACES && rest != 0; i++) {
                rest &= ~Grid.reach(rest & -rest, rest);
                holes++;
            }
            return holes;
        }

        static int cutCells(long figure) {
            int cells = Long.bitCount(figure);
            long rest = figure;
            int cuts = 0;
            for (int i = 0; i < cells && cells > 1; i++) {
                long cell = rest & -rest;
                rest ^= cell;
                if (!Grid.hangs(figure ^ cell)) {
                    cuts++;
                }
            }
            return cuts;
        }

        static int beside(long figure) {
            // Beyond the seven by seven each place has one cell at its side, one of the rim.
            return Long.bitCount(Grid.around(figure) & ~figure & Grid.SEVEN_BY_SEVEN)
                + Long.bitCount(figure & Grid.COLUMN)
                + Long.bitCount(figure & Grid.COLUMN << 6)
                + Long.bitCount(figure & Grid.ROW)
                + Long.bitCount(figure & Grid.ROW << 48);
        }

        // A point is told as the place to its lower right; shifts bring the three other places there.

        /** The points at which just three of the four places round are cells. */
        static long threes(long figure) {
            long right = figure;
            long left = figure << 1;
            long upperRight = figure << 8;
            long upperLeft = figure << 9;
            return right & left & (upperRight ^ upperLeft) | upperRight & upperLeft & (right ^ left);
        }

        /** The points at which just two cells lie aslant. */
        static long aslant(long figure) {
            long falling = figure & figure << 9;
            long rising = figure << 1 & figure << 8;
            return falling & ~(figure << 1 | figure << 8) | rising & ~(figure | figure << 9);
        }

        static int outer(long figure) {
            long odd = figure ^ figure << 1 ^ figure << 8 ^ figure << 9;
            return Long.bitCount(odd & ~threes(figure)) + 2 * Long.bitCount(aslant(figure));
        }

        static int squares(long figure) {
            return Long.bitCount(figure & figure << 1 & figure << 8 & figure << 9);
        }

        /** Whole if there are as many runs of cells as rows. */
        static boolean isRowWhole(long figure) {
            return Long.bitCount(figure & ~(figure << 1)) == Grid.height(figure);
        }

        static boolean isColumnWhole(long figure) {
            return Long.bitCount(figure & ~(figure << 8)) == Grid.width(figure);
        }

        static int same(long figure) {
            int same = 1;
            long now = figure;
            for (int t = 1; t < 8; t++) {
                now = t == 4 ? Grid.mirrored(figure) : Grid.quarter(now);
                if (now == figure) {
                    same++;
                }
            }
            return same;
        }
    }

    /** Reads a text, byte by byte. */
    private static final class Reader {
        private static final int LAST_FAULT = 5;

        private long board;
        private int column;
        private int line;
        private int cells;

        /** 0, or -1000 times the fault's number, less its place. */
        int read(byte[] text, int n) {
            board = 0;
            column = 0;
            line = 0;
            cells = 0;
            for (int i = 0; i < n && i < text.length; i++) {
                int fault = accept(text[i]);
                if (fault != 0) {
                    return -1000 * fault - i;
                }
            }
            return Grid.hangs(board) ? 0 : -1000 * LAST_FAULT - n;
        }

        long board() {
            return board;
        }

        private int accept(byte sign) {
            if (sign == ' ') {
                return 0;
            }
            if (sign == '/') {
                return endRow();
            }
            if (sign != '#' && sign != '.') {
                return 1;
            }
            if (column >= WIDEST) {
                return 2;
            }
            if (sign == '#') {
                if (cells >= MOST_CELLS) {
                    return 4;
                }
                board |= 1L << 8 * line + column;
                cells++;
            }
            column++;
            return 0;
        }

        private int endRow() {
            if (line >= WIDEST - 1) {
                return 3;
            }
            line++;
            column = 0;
            return 0;
        }
    }

    /** Numbers, rising and without doubles. */
    private static final class Row {
        static final int ROOM = 64;

        private final long[] items = new long[ROOM];
        private int size;

        void clear() {
            size = 0;
        }

        int size() {
            return size;
        }

        long at(int i) {
            return within(i, 0, size - 1) ? items[i] : 0;
        }

        void add(long item) {
            int at = size;
            for (int i = size - 1; i >= 0 && items[i] >= item; i--) {
                at = i;
            }
            if (at < size && items[at] == item || size >= ROOM) {
                return;
            }
            System.arraycopy(items, at, items, at + 1, size - at);
            items[at] = item;
            size++;
        }
    }

    /** Figures made of others: turned, grown, shrunk, drawn. */
    private static final class Growth {
        /** Adds the figure as it is, or all its turns, to a row. */
        static void addForms(long figure, boolean all, Row into) {
            into.add(figure);
            long now = figure;
            for (int t = 1; t < 8 && all; t++) {
                now = t == 4 ? Grid.mirrored(figure) : Grid.quarter(now);
                into.add(now);
            }
        }

        static void gather(long figure, int kind, boolean more, Row into) {
            into.clear();
            if (more) {
                gatherGrown(figure, kind, into);
            } else {
                gatherShrunk(figure, kind, into);
            }
        }

        private static void gatherGrown(long figure, int kind, Row into) {
            if (Long.bitCount(figure) >= MOST_CELLS) {
                return;
            }
            long room = Grid.roomed(figure);
            long rest = Grid.sites(figure, room);
            int sites = Long.bitCount(rest);
            for (int i = 0; i < sites; i++) {
                long site = rest & -rest;
                rest ^= site;
                into.add(Grid.least(Grid.settled(room | site), kind));
            }
        }

        private static void gatherShrunk(long figure, int kind, Row into) {
            long rest = figure;
            int cells = Long.bitCount(figure);
            for (int i = 0; i < cells; i++) {
                long cell = rest & -rest;
                rest ^= cell;
                if (Grid.hangs(figure ^ cell)) {
                    into.add(Grid.least(Grid.settled(figure ^ cell), kind));
                }
            }
        }

        static long byLots(int seed, int n) {
            long figure = 1;
            int x = seed & 65535;
            for (int cells = 1; cells < n; cells++) {
                long room = Grid.roomed(figure);
                long sites = Grid.sites(figure, room);
                int choices = Long.bitCount(sites);
                if (choices == 0) {
                    return figure;
                }
                x = 25173 * x + 13849 & 65535;
                figure = Grid.settled(room | bitOf(sites, x / 4 % choices));
            }
            return figure;
        }

        /** The k-th of the bits of a board. */
        private static long bitOf(long board, int k) {
            long rest = board;
            for (int i = 0; i < k; i++) {
                rest &= rest - 1;
            }
            return rest & -rest;
        }
    }

    /** The lists of all figures of a size and a kind, made when they are first asked for. */
    private static final class Catalogue {
        static final int TILES = 15;

        private static final int FIXED = 1067;
        private static final int ONE_SIDED = 285;
        private static final int FREE = 164;
        private static final int SIZES = LARGEST_LISTED + 1;

        /** All fixed figures by size, then number; the other kinds' rows tell places in it. */
        private final long[] numbers = new long[FIXED];
        private final int[] oneSided = new int[ONE_SIDED];
        private final int[] free = new int[FREE];
        /** Of a kind and a size the end of its list, where that of the next size starts. */
        private final int[] ends = new int[3 * SIZES];
        /** Eight traits in a long, one more than each is; 0: not yet known. */
        private final long[] marks = new long[2 * FIXED];
        private final int[] crowds = new int[Grid.PLACES];
        private final Outline outline;
        private int made;

        Catalogue(Outline outline) {
            this.outline = outline;
            made = 0;
        }

        void prepare(int n) {
            for (int size = made + 1; size <= n && size < SIZES; size++) {
                makeFixed(size);
                sortKinds(size);
                made = size;
            }
        }

        int size(int n, int kind) {
            return end(n, kind) - end(n - 1, kind);
        }

        long at(int n, int kind, int k) {
            return numberOf(member(kind, end(n - 1, kind) + k));
        }

        /** Where a number stands in a list; NONE if it doesn't. */
        int indexOf(int n, int kind, long number) {
            int start = end(n - 1, kind);
            int low = start;
            int high = end(n, kind);
            for (int i = 0; i < 32 && low < high; i++) {
                int middle = low + high >>> 1;
                if (numberOf(member(kind, middle)) < number) {
                    low = middle + 1;
                } else {
                    high = middle;
                }
            }
            return low < end(n, kind) && numberOf(member(kind, low)) == number ? low - start : NONE;
        }

        /** What told() says of one of a list, or whether it tiles; kept, as lists are asked again and again. */
        int trait(int n, int kind, int k, int what) {
            int i = member(kind, end(n - 1, kind) + k);
            if (!within(i, 0, FIXED - 1) || !within(what, 0, TILES)) {
                return NONE;
            }
            int slot = 2 * i + (what >> 3);
            int shift = 8 * (what & 7);
            int mark = (int) (marks[slot] >>> shift) & 255;
            if (mark == 0) {
                mark = 1 + (what == TILES ? outline.tilesBy(numbers[i]) : Traits.of(numbers[i], what));
                marks[slot] |= (long) mark << shift;
            }
            return mark - 1;
        }

        /** The most that have the same trait, or how many unlike traits there are. */
        int crowds(int n, int kind, int what, boolean most) {
            for (int value = 0; value < crowds.length; value++) {
                crowds[value] = 0;
            }
            int size = size(n, kind);
            int greatest = 0;
            int unlike = 0;
            for (int k = 0; k < size; k++) {
                int value = trait(n, kind, k, what);
                if (within(value, 0, crowds.length - 1)) {
                    unlike += crowds[value] == 0 ? 1 : 0;
                    crowds[value]++;
                    greatest = Math.max(greatest, crowds[value]);
                }
            }
            return most ? greatest : unlike;
        }

        private int end(int n, int kind) {
            int i = kind * SIZES + n;
            return within(i, 0, ends.length - 1) ? ends[i] : 0;
        }

        private long numberOf(int member) {
            return within(member, 0, FIXED - 1) ? numbers[member] : 0;
        }

        /** Where in all numbers the i-th of a kind's row stands. */
        private int member(int kind, int i) {
            if (kind == 0) {
                return i;
            }
            int[] members = kind == 1 ? oneSided : free;
            return within(i, 0, members.length - 1) ? members[i] : NONE;
        }

        private void makeFixed(int size) {
            ends[size] = ends[size - 1];
            if (size == 1) {
                insert(1, 1L);
                return;
            }
            for (int i = ends[size - 2]; i < ends[size - 1] && i < FIXED; i++) {
                insertGrown(size, numbers[i]);
            }
        }

        private void insertGrown(int size, long figure) {
            long room = Grid.roomed(figure);
            long rest = Grid.sites(figure, room);
            int sites = Long.bitCount(rest);
            for (int i = 0; i < sites; i++) {
                long site = rest & -rest;
                rest ^= site;
                insert(size, Grid.settled(room | site));
            }
        }

        private void insert(int size, long number) {
            int low = ends[size - 1];
            int end = ends[size];
            int high = end;
            for (int i = 0; i < 32 && low < high; i++) {
                int middle = low + high >>> 1;
                if (numbers[middle] < number) {
                    low = middle + 1;
                } else {
                    high = middle;
                }
            }
            if (low < end && numbers[low] == number || end >= FIXED) {
                return;
            }
            System.arraycopy(numbers, low, numbers, low + 1, end - low);
            numbers[low] = number;
            ends[size] = end + 1;
        }

        private void sortKinds(int size) {
            int oneSidedEnd = end(size - 1, 1);
            int freeEnd = end(size - 1, FREE_KIND);
            for (int i = ends[size - 1]; i < ends[size] && i < FIXED; i++) {
                if (oneSidedEnd < ONE_SIDED && Grid.isLeast(numbers[i], 1)) {
                    oneSided[oneSidedEnd] = i;
                    oneSidedEnd++;
                    if (freeEnd < FREE && Grid.isLeast(numbers[i], FREE_KIND)) {
                        free[freeEnd] = i;
                        freeEnd++;
                    }
                }
            }
            ends[SIZES + size] = oneSidedEnd;
            ends[FREE_KIND * SIZES + size] = freeEnd;
        }
    }

    /** Ways by steps among the free figures of a size; sets of them are bits by their places in the list. */
    private static final class Ways {
        private static final int MOST_FREE = 35;

        private final Catalogue catalogue;
        /** Of each size and free figure those that are one step away. */
        private final long[] near = new long[(LARGEST_ON_WAY + 1) * MOST_FREE];
        private final boolean[] made = new boolean[LARGEST_ON_WAY + 1];

        Ways(Catalogue catalogue) {
            this.catalogue = catalogue;
        }

        int steps(int n, long from, long to) {
            long goal = setOf(n, to);
            long seen = setOf(n, from);
            for (int step = 0; step <= MOST_FREE; step++) {
                if ((seen & goal) != 0) {
                    return step;
                }
                seen |= beyond(n, seen);
            }
            return NONE;
        }

        /** How many steps the farthest are away, or how many there are of these. */
        int edge(int n, long from, boolean far) {
            long seen = setOf(n, from);
            long last = seen;
            for (int step = 0; step <= MOST_FREE; step++) {
                long next = beyond(n, last) & ~seen;
                if (next == 0) {
                    return far ? step : Long.bitCount(last);
                }
                seen |= next;
                last = next;
            }
            return NONE;
        }

        /** Finds what is one step away from each; the lists of that size are there already. */
        void prepare(int n) {
            if (!within(n, 1, LARGEST_ON_WAY) || made[n]) {
                return;
            }
            int size = Math.min(catalogue.size(n, FREE_KIND), MOST_FREE);
            for (int k = 0; k < size; k++) {
                long figure = catalogue.at(n, FREE_KIND, k);
                long rest = figure;
                for (int i = 0; i < n; i++) {
                    near[n * MOST_FREE + k] |= regrown(n, figure & ~(rest & -rest));
                    rest &= rest - 1;
                }
            }
            made[n] = true;
        }

        private long setOf(int n, long figure) {
            int place = catalogue.indexOf(n, FREE_KIND, Grid.least(figure, FREE_KIND));
            return place < 0 ? 0 : 1L << place;
        }

        private long beyond(int n, long set) {
            long all = 0;
            for (int k = 0; k < MOST_FREE; k++) {
                int i = n * MOST_FREE + k;
                if ((set >>> k & 1) != 0 && i < near.length) {
                    all |= near[i];
                }
            }
            return all;
        }

        /** All free figures that cells (six wide and high at most) become with one more. */
        private long regrown(int n, long cells) {
            long room = cells << 9;
            long rest = Grid.around(room) & ~room;
            int sites = Long.bitCount(rest);
            long all = 0;
            for (int i = 0; i < sites; i++) {
                long site = rest & -rest;
                rest ^= site;
                long figure = Grid.settled(room | site);
                if (Grid.hangs(figure)) {
                    int place = catalogue.indexOf(n, FREE_KIND, Grid.least(figure, FREE_KIND));
                    all |= place < 0 ? 0 : 1L << place;
                }
            }
            return all;
        }
    }

    /** The line round a figure, its cuttings and the moves by which it tiles. */
    private static final class Outline {
        /** Twice the longest line, which is written twice so that it can be read on past its end. */
        private static final int ROOM = 4 * (MOST_CELLS + 1);

        private final byte[] letters = new byte[ROOM];
        private int length;
        private int cuttings;
        private int bare;
        private int place;
        private int lengthA;
        private int lengthB;
        private int lengthC;
        private int firstX;
        private int firstY;
        private int secondX;
        private int secondY;

        int length() {
            return length;
        }

        int letter(int i) {
            return within(i, 0, ROOM - 1) ? letters[i] : NONE;
        }

        int cuttings() {
            return cuttings;
        }

        /** Whether a figure tiles by moves alone (1, 0). */
        int tilesBy(long figure) {
            if (!trace(figure)) {
                return 0;
            }
            cut();
            return cuttings > 0 ? 1 : 0;
        }

        /** Goes round a figure; false if it has no line. */
        boolean trace(long figure) {
            length = 0;
            if (Traits.hollow(figure) != 0 || Traits.aslant(figure) != 0) {
                return false;
            }
            int sides = Traits.sides(figure);
            int x = Grid.lowest(figure);
            int y = 0;
            int letter = 0;
            for (int i = 0; i < sides && i + sides < ROOM; i++) {
                letters[i] = (byte) letter;
                letters[i + sides] = (byte) letter;
                x += stepX(letter);
                y += stepY(letter);
                letter = nextLetter(figure, x, y, letter);
            }
            length = sides;
            return true;
        }

        private static int stepX(int letter) {
            return letter == 0 ? 1 : letter == 2 ? -1 : 0;
        }

        private static int stepY(int letter) {
            return letter == 1 ? 1 : letter == 3 ? -1 : 0;
        }

        /** With the figure to the right hand: left if a cell lies ahead to the left, right if none to the right. */
        private static int nextLetter(long figure, int x, int y, int letter) {
            // Place to the right ahead of the point (x, y): lower right, lower left, upper left, upper right.
            int rightX = letter == 1 || letter == 2 ? x - 1 : x;
            int rightY = letter >= 2 ? y - 1 : y;
            int leftX = rightX + stepY(letter);
            int leftY = rightY - stepX(letter);
            if (Grid.has(figure, leftX, leftY)) {
                return letter + 3 & 3;
            }
            return Grid.has(figure, rightX, rightY) ? letter : letter + 1 & 3;
        }

        /** Finds all cuttings of the line traced, and notes the first. */
        void cut() {
            cuttings = 0;
            bare = 0;
            int half = length / 2;
            for (int start = 0; start < half; start++) {
                for (int a = 1; a < half; a++) {
                    if (isOpposed(start, a)) {
                        cutFrom(start, a);
                    }
                }
            }
        }

        private void cutFrom(int start, int a) {
            int half = length / 2;
            for (int b = 1; a + b <= half; b++) {
                int c = half - a - b;
                if (isOpposed(start + a, b) && isOpposed(start + a + b, c)) {
                    note(start, a, b, c);
                }
            }
        }

        private void note(int start, int a, int b, int c) {
            if (cuttings == 0) {
                place = start;
                lengthA = a;
                lengthB = b;
                lengthC = c;
            }
            cuttings++;
            if (c == 0) {
                bare++;
            }
        }

        /** Whether half a line on from a stretch it stands again, turned. */
        private boolean isOpposed(int start, int size) {
            int across = start + length / 2;
            if (start < 0 || across + size > ROOM) {
                return false;
            }
            for (int i = 0; i < size; i++) {
                if (letters[across + i] != (letters[start + size - 1 - i] ^ 2)) {
                    return false;
                }
            }
            return true;
        }

        int cutting(int what) {
            switch (what) {
                case 0: return cuttings;
                case 1: return bare;
                case 2: return place;
                case 3: return lengthA;
                case 4: return lengthB;
                default: return lengthC;
            }
        }

        /** The moves of the first cutting, by A and B and by B and C. */
        void findMoves() {
            firstX = 0;
            firstY = 0;
            secondX = 0;
            secondY = 0;
            for (int i = 0; i < lengthA + lengthB + lengthC; i++) {
                int letter = letter(place + i);
                if (i < lengthA + lengthB) {
                    firstX += stepX(letter);
                    firstY += stepY(letter);
                }
                if (i >= lengthA) {
                    secondX += stepX(letter);
                    secondY += stepY(letter);
                }
            }
        }

        int move(int what) {
            switch (what) {
                case 0: return firstX + 10;
                case 1: return firstY + 10;
                case 2: return secondX + 10;
                case 3: return secondY + 10;
                default: return Math.abs(crossed(firstX, firstY, secondX, secondY));
            }
        }

        private static int crossed(int x, int y, int u, int v) {
            return x * v - y * u;
        }

        /** Of the copy that has (x, y): how often it is moved by the first, by the second move, or its cell there. */
        int copyAt(long figure, int x, int y, int what) {
            int area = crossed(firstX, firstY, secondX, secondY);
            if (area == 0) {
                return LACKING;
            }
            long rest = figure;
            int cells = Long.bitCount(figure);
            for (int i = 0; i < cells; i++) {
                int bit = Grid.lowest(rest);
                rest &= rest - 1;
                int awayX = x - (bit & 7);
                int awayY = y - (bit >> 3);
                int byFirst = crossed(awayX, awayY, secondX, secondY);
                int bySecond = crossed(firstX, firstY, awayX, awayY);
                if (byFirst % area == 0 && bySecond % area == 0) {
                    return what == 2 ? bit : 100 + (what == 0 ? byFirst : bySecond) / area;
                }
            }
            return LACKING;
        }
    }

    /** Rectangles filled, place after place. */
    private static final class Filling {
        static final int LONGEST = 6;

        private static final int MOST_TRIES = 20000;
        private static final int DEEPEST = LONGEST * LONGEST;

        private final long[] figures = new long[Row.ROOM];
        private final int[] firsts = new int[Row.ROOM];
        private final int[] widths = new int[Row.ROOM];
        private final int[] heights = new int[Row.ROOM];
        /** What is covered at a depth (all beyond the rectangle is), the first place that isn't, the next to try. */
        private final long[] covered = new long[DEEPEST];
        private final int[] places = new int[DEEPEST];
        private final int[] next = new int[DEEPEST];
        private int size;

        /** The ways to fill w by h by the figures of a row; NONE after too many tries. */
        int search(int w, int h, Row row) {
            measure(row);
            open(0, ~((Grid.ROW >>> 8 - w) * (Grid.COLUMN >>> 8 * (8 - h))));
            int depth = 0;
            int tries = 0;
            int found = 0;
            // Each round is a try or a way back, and there are no more ways back than tries and one.
            for (int round = 0; round <= 2 * MOST_TRIES + 2 && depth >= 0; round++) {
                int k = next[depth];
                if (k >= size) {
                    depth--;
                    continue;
                }
                next[depth] = k + 1;
                tries++;
                if (tries > MOST_TRIES) {
                    return NONE;
                }
                long laid = laid(k, depth, w, h);
                if ((laid | covered[depth]) == -1L) {
                    found++;
                } else if (laid != 0 && depth + 1 < DEEPEST) {
                    depth++;
                    open(depth, laid | covered[depth - 1]);
                }
            }
            return found;
        }

        private void measure(Row row) {
            size = Math.min(row.size(), Row.ROOM);
            for (int k = 0; k < size; k++) {
                figures[k] = row.at(k);
                firsts[k] = Grid.lowest(figures[k]);
                widths[k] = Grid.width(figures[k]);
                heights[k] = Grid.height(figures[k]);
            }
        }

        private void open(int depth, long taken) {
            covered[depth] = taken;
            places[depth] = Grid.lowest(~taken);
            next[depth] = 0;
        }

        /** The k-th figure with its first cell on the first place that is free; 0 if it doesn't go there. */
        private long laid(int k, int depth, int w, int h) {
            int left = (places[depth] & 7) - firsts[k];
            int top = places[depth] >> 3;
            if (left < 0 || left + widths[k] > w || top + heights[k] > h) {
                return 0;
            }
            long there = figures[k] << 8 * top + left;
            return (there & covered[depth]) == 0 ? there : 0;
        }
    }

    /** What part() says of a figure; sets of its cells are bits by their order. */
    private static final class Parts {
        /** x and y even together. */
        private static final long EVEN = 0xAA55AA55AA55AA55L;

        private final long[] cells = new long[MOST_CELLS];
        private final int[] near = new int[MOST_CELLS];
        private final int[] table = new int[1 << MOST_CELLS];
        private final long[] matrix = new long[(MOST_CELLS - 1) * (MOST_CELLS - 1)];
        private int size;

        long of(long figure, int what) {
            index(figure);
            switch (what) {
                case 0: return orders();
                case 1: return pairings();
                case 2: return halvings(figure, 0);
                case 3: return halvings(figure, 1);
                case 4: return halvings(figure, 2);
                case 5: return longestWay(figure);
                case 6: return trees();
                default: return Math.abs(Long.bitCount(figure & EVEN) - Long.bitCount(figure & ~EVEN));
            }
        }

        private void index(long figure) {
            size = Math.min(Long.bitCount(figure), MOST_CELLS);
            long rest = figure;
            for (int i = 0; i < size; i++) {
                cells[i] = rest & -rest;
                rest ^= cells[i];
            }
            for (int i = 0; i < size; i++) {
                near[i] = 0;
                for (int j = 0; j < size; j++) {
                    if ((Grid.around(cells[i]) & cells[j]) != 0) {
                        near[i] |= 1 << j;
                    }
                }
            }
        }

        private long orders() {
            int sets = 1 << size;
            for (int set = 0; set < sets; set++) {
                table[set] = Integer.bitCount(set) == 1 ? 1 : 0;
            }
            // A set comes behind all sets within it, so that its own orders are known by then.
            for (int set = 1; set < sets; set++) {
                for (int i = 0; i < size && table[set] != 0; i++) {
                    int grown = set | 1 << i;
                    if (grown != set && (near[i] & set) != 0) {
                        table[grown] += table[set];
                    }
                }
            }
            return table[sets - 1];
        }

        private long pairings() {
            int sets = 1 << size;
            table[0] = 1;
            for (int set = 1; set < sets; set++) {
                int first = set & -set;
                int partners = near[Integer.bitCount(first - 1)] & set;
                table[set] = 0;
                for (int i = 0; i < size; i++) {
                    if ((partners >> i & 1) != 0) {
                        table[set] += table[set ^ first ^ 1 << i];
                    }
                }
            }
            return table[sets - 1];
        }

        private long halvings(long figure, int kind) {
            int ways = 0;
            // The half with the first cell alone, as it doesn't count which is which.
            for (int set = 1; set < 1 << size; set += 2) {
                if (2 * Integer.bitCount(set) == size && areAlike(figure, boardOf(set), kind)) {
                    ways++;
                }
            }
            return ways;
        }

        private long boardOf(int set) {
            long board = 0;
            for (int i = 0; i < size; i++) {
                if ((set >> i & 1) != 0) {
                    board |= cells[i];
                }
            }
            return board;
        }

        private static boolean areAlike(long figure, long half, int kind) {
            long other = figure ^ half;
            return Grid.hangs(half)
                && Grid.hangs(other)
                && Grid.least(Grid.settled(half), kind) == Grid.least(Grid.settled(other), kind);
        }

        private long longestWay(long figure) {
            int longest = 0;
            for (int i = 0; i < size; i++) {
                long seen = cells[i];
                for (int steps = 0; steps < size && seen != figure; steps++) {
                    seen |= Grid.around(seen) & figure;
                    longest = Math.max(longest, steps + 1);
                }
            }
            return longest;
        }

        /** Kirchhoff's count: the determinant of the cells' matrix without the last cell, kept whole by Bareiss. */
        private long trees() {
            int side = size - 1;
            fillMatrix(side);
            long before = 1;
            for (int k = 0; k + 1 < side; k++) {
                if (before == 0) {
                    return 0;
                }
                eliminate(k, side, before);
                before = matrix[k * side + k];
            }
            return side > 0 ? matrix[side * side - 1] : 1;
        }

        private void fillMatrix(int side) {
            for (int i = 0; i < side; i++) {
                for (int j = 0; j < side; j++) {
                    matrix[i * side + j] = -(near[i] >> j & 1);
                }
                matrix[i * side + i] = Integer.bitCount(near[i]);
            }
        }

        private void eliminate(int k, int side, long before) {
            if (before == 0) {
                return;
            }
            for (int i = k + 1; i < side; i++) {
                for (int j = k + 1; j < side; j++) {
                    long crossed = matrix[i * side + j] * matrix[k * side + k]
                        - matrix[i * side + k] * matrix[k * side + j];
                    matrix[i * side + j] = crossed / before;
                }
            }
        }
    }

    /** Two figures, the second moved to and fro. */
    private static final class Meeting {
        /** One farther than the farthest move, as sides are found by overlaps one place on. */
        private static final int REACH = FARTHEST_MOVE + 1;
        private static final int SPAN = 2 * REACH + 1;

        private final int[] overlaps = new int[SPAN * SPAN];
        private int overlapping;
        private int touching;
        private int most;
        private int mostU;
        private int mostV;
        private int area;

        /** How many cells are of both. */
        static int overlap(long first, long second, int u, int v) {
            return Long.bitCount(first & Grid.moved(second, u, v));
        }

        static int sharedSides(long first, long second, int u, int v) {
            return overlap(first, second, u - 1, v)
                + overlap(first, second, u + 1, v)
                + overlap(first, second, u, v - 1)
                + overlap(first, second, u, v + 1);
        }

        /** In how many places figures of a row lie in another one. */
        static int placings(Row figures, long ground) {
            int placings = 0;
            for (int k = 0; k < figures.size(); k++) {
                long figure = figures.at(k);
                int down = Grid.height(ground) - Grid.height(figure);
                int across = Grid.width(ground) - Grid.width(figure);
                for (int v = 0; v <= down; v++) {
                    for (int u = 0; u <= across; u++) {
                        if ((figure << 8 * v + u & ~ground) == 0) {
                            placings++;
                        }
                    }
                }
            }
            return placings;
        }

        /** The most cells, hanging together, on which a figure of a row and another one can lie both. */
        static int largestCommon(Row figures, long ground) {
            int largest = 0;
            for (int k = 0; k < figures.size(); k++) {
                for (int v = 1 - WIDEST; v < WIDEST; v++) {
                    for (int u = 1 - WIDEST; u < WIDEST; u++) {
                        long both = ground & Grid.moved(figures.at(k), u, v);
                        largest = largestPart(both, largest);
                    }
                }
            }
            return largest;
        }

        /** The cells of the largest part that hangs together, if they are more than are known. */
        private static int largestPart(long board, int known) {
            int largest = known;
            long rest = board;
            for (int i = 0; i < Grid.PLACES && Long.bitCount(rest) > largest; i++) {
                long part = Grid.reach(rest & -rest, rest);
                largest = Math.max(largest, Long.bitCount(part));
                rest ^= part;
            }
            return largest;
        }

        /** Goes through all moves of the second figure. */
        void measure(long first, long second) {
            for (int i = 0; i < overlaps.length; i++) {
                overlaps[i] = overlap(first, second, i % SPAN - REACH, i / SPAN - REACH);
            }
            overlapping = 0;
            touching = 0;
            most = 0;
            mostU = 0;
            mostV = 0;
            area = 0;
            for (int v = -FARTHEST_MOVE; v <= FARTHEST_MOVE; v++) {
                for (int u = -FARTHEST_MOVE; u <= FARTHEST_MOVE; u++) {
                    if (overlapAt(u, v) > 0) {
                        overlapping++;
                    } else {
                        noteShared(u, v);
                        noteBox(around(Grid.width(first), Grid.width(second), u)
                            * around(Grid.height(first), Grid.height(second), v));
                    }
                }
            }
        }

        private int overlapAt(int u, int v) {
            int i = (v + REACH) * SPAN + u + REACH;
            return within(i, 0, overlaps.length - 1) ? overlaps[i] : 0;
        }

        private void noteShared(int u, int v) {
            int shared = overlapAt(u - 1, v) + overlapAt(u + 1, v) + overlapAt(u, v - 1) + overlapAt(u, v + 1);
            if (shared > 0) {
                touching++;
            }
            if (shared > most) {
                most = shared;
                mostU = u;
                mostV = v;
            }
        }

        private void noteBox(int box) {
            if (area == 0 || box < area) {
                area = box;
            }
        }

        /** The length that holds two, the second moved on. */
        private static int around(int first, int second, int move) {
            return Math.max(first, move + second) - Math.min(0, move);
        }

        int measured(int what) {
            switch (what) {
                case 0: return overlapping;
                case 1: return touching;
                case 2: return most;
                case 3: return mostU + 10;
                case 4: return mostV + 10;
                default: return area;
            }
        }
    }
}

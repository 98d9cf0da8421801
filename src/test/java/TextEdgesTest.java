/**
 * Promises 1 to 5 read sentence by sentence: for each that names a boundary case the last that is still so and the
 * first that is not, and for each refused call that nothing changes but what the document says.
 */
public final class TextEdgesTest extends TestBase {
    private TextEdgesTest() {
    }

    public static void main(String[] args) {
        newObject();
        objectsApart();
        feedOrder();
        feedFull();
        textLength();
        textLacking();
        textBytes();
        firstFault();
        eighthOfRow();
        seventhRowEnd();
        thirteenthCell();
        noFigure();
        movedToOrigin();
        faultsLeaveAll();
        noneComesFirst();
        putCells();
        putTogether();
        putBox();
        putRefused();
        putTaken();
        putOneBitOff();
        take();
        end("edges of texts");
    }

    private static void newObject() {
        says(1, "DRAWERS are empty");
        for (int d = 0; d < 8; d++) {
            due("number(" + d + ", 0)", new CellFigures().number(d, 0), -2);
            due("take(" + d + ")", new CellFigures().take(d), 0);
        }
        due("count(0)", new CellFigures().count(0), 0);
        due("count(1)", new CellFigures().count(1), 0);
        due("count(2)", new CellFigures().count(2), 0);
        due("back()", new CellFigures().back(), NONE);
        due("keep()", new CellFigures().keep(), 1);
        due("NONE", NONE, -1);
    }

    private static void objectsApart() {
        says(1, "All memory is the list's own");
        CellFigures first = laden(T, L, RING);
        CellFigures second = new CellFigures();
        due("number(0, 0) of a second one", second.number(0, 0), -2);
        due("count(1) of a second one", second.count(1), 0);
        due("back() of a second one", second.back(), NONE);
        second.put(0, U);
        second.feed(0, 0, 0, 0, 0);
        second.keep();
        dueText("a second one", seen(first), seen(laden(T, L, RING)));
    }

    private static void feedOrder() {
        says(2, "Twenty bytes come behind the tape, the highest of each int first");
        for (int i = 0; i < 60; i++) {
            CellFigures x = new CellFigures();
            due("a byte at " + i, read(x, 0, " ".repeat(i) + "a" + " ".repeat(59 - i)), -1000 - i);
        }
        for (int w : new int[] {Integer.MIN_VALUE, Integer.MAX_VALUE, -1, 0}) {
            due("feed of " + w, new CellFigures().feed(w, w, w, w, w), 20);
        }
    }

    private static CellFigures fedFully() {
        CellFigures x = laden(T, L);
        tape(x, " ".repeat(40));
        due("the tape has 120", x.count(1), 120);
        return x;
    }

    private static void feedFull() {
        says(2, "how many it has; NONE if that would be more than 120");
        CellFigures x = new CellFigures();
        for (int fed = 20; fed <= 120; fed += 20) {
            due("feed", x.feed(0x23232323, 0, 0, 0, 0), fed);
            due("count(1)", x.count(1), fed);
        }
        due("feed beyond 120", x.feed(0x61616161, 0, 0, 0, 0), NONE);
        due("feed beyond 120 again", x.feed(0x61616161, 0, 0, 0, 0), NONE);
        due("count(1)", x.count(1), 120);
        due("the first of the 120", x.figure(0, 4), 4);
        due("feed behind a figure", x.feed(0, 0, 0, 0, 0), 20);
        unchanged("feed beyond 120", TextEdgesTest::fedFully, NONE, y -> y.feed(-1, -1, -1, -1, -1));
    }

    private static void textLength() {
        says(3, "the tape's first n bytes (1 to 60; empty then)");
        unchanged("figure(0, 0)", () -> laden(T), NONE, x -> x.figure(0, 0));
        unchanged("figure(0, 61)", () -> laden(T), NONE, x -> x.figure(0, 61));
        CellFigures x = laden(T);
        due("figure(0, 60)", x.figure(0, 60), 3);
        due("count(1)", x.count(1), 0);
        x = laden(T);
        due("figure(0, 1)", x.figure(0, 1), 1);
        due("count(1), those behind the first are gone too", x.count(1), 0);
        due("number(0, 0)", x.number(0, 0), ONE);
        x = new CellFigures();
        tape(x, "##abc");
        due("those behind the first n count for nothing", x.figure(0, 2), 2);
        x = fedFully();
        due("figure(0, 60) of 120", x.figure(0, 60), 3);
        due("count(1)", x.count(1), 0);
    }

    private static CellFigures fed40() {
        CellFigures x = with(T);
        tape(x, "##" + " ".repeat(38));
        return x;
    }

    private static void textLacking() {
        says(3, "NONE: no such ones, it has not so many (the tape stays)");
        unchanged("figure of an empty tape", () -> with(T), NONE, x -> x.figure(0, 1));
        unchanged("figure(0, 41) of 40", TextEdgesTest::fed40, NONE, x -> x.figure(0, 41));
        unchanged("figure(0, 60) of 40", TextEdgesTest::fed40, NONE, x -> x.figure(0, 60));
        due("figure(0, 40) of 40", fed40().figure(0, 40), 2);
        due("figure(0, 39) of 40", fed40().figure(0, 39), 2);
        CellFigures x = fed40();
        x.figure(0, 40);
        due("figure(0, 1), the tape empty again", x.figure(0, 1), NONE);
        unchanged("figure(8, 5)", () -> laden(T), NONE, y -> y.figure(8, 5));
        unchanged("figure(-1, 5)", () -> laden(T), NONE, y -> y.figure(-1, 5));
        due("figure(7, 5)", laden(T).figure(7, 5), 3);
    }

    private static void textBytes() {
        says(3, "# (a CELL), . (none), / (behind a ROW); blanks (32) count for nothing; FAULT 1 another byte");
        for (int b = 0; b < 256; b++) {
            CellFigures x = with(T);
            boolean known = b == '#' || b == '.' || b == '/' || b == ' ';
            due("# and byte " + b, read(x, 0, "#" + (char) b), b == '#' ? 2 : known ? 1 : -1001);
            due("number(0, 0) behind byte " + b, x.number(0, 0), b == '#' ? TWO_ACROSS : known ? ONE : T);
            due("count(1) behind byte " + b, x.count(1), 0);
        }
        CellFigures x = new CellFigures();
        due("blanks all about", read(x, 0, "  # #/ .  # "), 3);
        due("number(0, 0)", x.number(0, 0), 515);
        due("another byte at the 60th place", read(x, 0, "#" + " ".repeat(58) + "-"), -1059);
        due("another byte at the first place", read(x, 0, "-#"), -1000);
    }

    private static void firstFault() {
        says(3, "FAULTS, the first byte from the left by which it is so");
        CellFigures x = with(T);
        due("two other bytes", read(x, 0, "#ab"), -1001);
        due("an 8th, then another byte", read(x, 0, "########a"), -2007);
        due("another byte, then an 8th", read(x, 0, "a########"), -1000);
        due("a 7th /, then a 13th #", read(x, 0, "///////######/#######"), -3006);
        due("a 13th #, then a 7th /", read(x, 0, "######/#######////////"), -4013);
        due("an 8th, then a 7th /", read(x, 0, "......../////////"), -2007);
        due("a 7th /, then an 8th", read(x, 0, "///////........"), -3006);
        due("no #, and another byte", read(x, 0, "...a"), -1003);
        due("not together, then a 7th /", read(x, 0, "#.#///////"), -3009);
        due("a 13th # and an 8th at once", read(x, 0, "#####/########"), -2013);
        due("a 13th # that is a 7th", read(x, 0, "######/#######"), -4013);
        due("number(0, 0)", x.number(0, 0), T);
    }

    private static void eighthOfRow() {
        says(3, "FAULT 2 an 8th # or . of a ROW");
        CellFigures x = with(T);
        due("seven #", read(x, 0, "#######"), 7);
        due("number(0, 0)", x.number(0, 0), BAR_7);
        due("an 8th #", read(x, 0, "########"), -2007);
        due("an 8th .", read(x, 0, "#######."), -2007);
        due("an 8th # behind seven .", read(x, 0, ".......#"), -2007);
        due("an 8th . behind seven .", read(x, 0, "........"), -2007);
        due("a 7th # behind six .", read(x, 0, "......#"), 1);
        due("an 8th byte that is a blank", read(x, 0, "####### "), 7);
        due("an 8th byte that is a /", read(x, 0, "#######/"), 7);
        due("seven with blanks", read(x, 0, " # # # # # # # "), 7);
        due("an 8th with blanks", read(x, 0, "# # # # # # # #"), -2014);
        due("seven in the second ROW", read(x, 0, "#/#######"), 8);
        due("an 8th of the second ROW", read(x, 0, "#/########"), -2009);
        due("an 8th . of the second ROW, seven in the first", read(x, 0, "#######/#......."), -2015);
        due("seven in the seventh ROW", read(x, 0, "//////#######"), 7);
        due("an 8th of the seventh ROW", read(x, 0, "//////........"), -2013);
    }

    private static void seventhRowEnd() {
        says(3, "FAULT 3 a 7th /");
        CellFigures x = with(T);
        due("six / ahead", read(x, 0, "//////#"), 1);
        due("six / behind", read(x, 0, "#//////"), 1);
        due("a 7th / of nothing else", read(x, 0, "///////"), -3006);
        due("a 7th / behind", read(x, 0, "#///////"), -3007);
        due("seven ROWS", read(x, 0, "#/#/#/#/#/#/#"), 7);
        due("number(0, 0)", x.number(0, 0), PILLAR_7);
        due("seven ROWS and a / behind the last", read(x, 0, "#/#/#/#/#/#/#/"), -3013);
        due("a 7th / with blanks", read(x, 0, "/ / / / / / /"), -3012);
        due("number(0, 0)", x.number(0, 0), PILLAR_7);
    }

    private static void thirteenthCell() {
        says(3, "FAULT 4 a 13th #");
        CellFigures x = new CellFigures();
        due("one #", read(x, 0, "#"), 1);
        due("twelve #", read(x, 0, "####/####/####"), 12);
        due("number(0, 0)", x.number(0, 0), THREE_BY_FOUR);
        due("a 13th #", read(x, 0, "####/####/####/#"), -4015);
        due("a 13th # with blanks", read(x, 0, "#### / #### / #### / #"), -4021);
        due("a 13th # in the same row", read(x, 0, "###/###/#######"), -4014);
        due("a 13th # that hangs together with none", read(x, 0, "####/####/####//..#"), -4018);
        due("twelve # and places to the end", read(x, 1, "####.../####.../####.../......./......./......./......."), 12);
        due("number(0, 0)", x.number(0, 0), THREE_BY_FOUR);
    }

    private static void noFigure() {
        says(3, "Behind all, at the length: 5 no #, or they don't hang together");
        CellFigures x = with(T);
        due("a .", read(x, 0, "."), -5001);
        due("a /", read(x, 0, "/"), -5001);
        due("a blank", read(x, 0, " "), -5001);
        due("sixty blanks", read(x, 0, " ".repeat(60)), -5060);
        due("no # on all places", read(x, 0, "......./......./......./......./......./......./......."), -5055);
        due("a place between", read(x, 0, "#.#"), -5003);
        due("blanks behind count for the length", read(x, 0, "#.#   "), -5006);
        due("a ROW between", read(x, 0, "#//#"), -5004);
        due("aslant", read(x, 0, "#/.#"), -5004);
        due("aslant the other way", read(x, 0, ".#/#"), -5004);
        due("the last of a ROW and the first of the next", read(x, 0, "......#/#"), -5009);
        due("the last of a ROW and the first but one", read(x, 0, "......#//#"), -5010);
        due("eleven and one apart", read(x, 0, "####/####/###./......#"), -5022);
        due("two sixes apart", read(x, 0, "######/./######"), -5015);
        due("number(0, 0)", x.number(0, 0), T);
        due("blanks between don't part", read(x, 0, "#  #"), 2);
    }

    private static void movedToOrigin() {
        says(3, "of which the least x and the least y are 0");
        CellFigures x = new CellFigures();
        due("in the lower right corner", read(x, 0, "//////......#"), 1);
        due("number(0, 0)", x.number(0, 0), ONE);
        due("at the right rim", read(x, 0, "......#/.....##"), 3);
        due("number(0, 0)", x.number(0, 0), 770);
        due("at the lower rim", read(x, 0, "/////##/#"), 3);
        due("number(0, 0)", x.number(0, 0), ANGLE);
        due("one to the right", read(x, 0, ".##/.#"), 3);
        due("number(0, 0)", x.number(0, 0), ANGLE);
        due("one down", read(x, 0, "/##/#"), 3);
        due("number(0, 0)", x.number(0, 0), ANGLE);
    }

    private static CellFigures ladenWithoutTape() {
        CellFigures x = laden(T, 0, L);
        x.figure(7, 5);
        return x;
    }

    private static void faultsLeaveAll() {
        says(3, "a FAULT: -1000 times its number, less its place (what was there stays)");
        String[] texts = {"a", "########", "///////", "######/#######", "#.#", "."};
        int[] wants = {-1000, -2007, -3006, -4013, -5003, -5001};
        for (int i = 0; i < texts.length; i++) {
            String text = texts[i];
            // Into a full drawer and into an empty one; the tape is empty ahead and behind.
            unchanged("figure(0, ..) of " + text, TextEdgesTest::ladenWithoutTape, wants[i], x -> read(x, 0, text));
            unchanged("figure(1, ..) of " + text, TextEdgesTest::ladenWithoutTape, wants[i], x -> read(x, 1, text));
        }
    }

    private static void noneComesFirst() {
        says(3, "Of several reasons NONE comes first");
        for (String text : new String[] {"a", "########", "///////", "######/#######", "#.#"}) {
            CellFigures x = with(T);
            tape(x, text);
            due("figure(8, ..)", x.figure(8, text.length()), NONE);
            due("figure(-1, ..)", x.figure(-1, text.length()), NONE);
            due("figure(0, 21)", x.figure(0, 21), NONE);
            due("count(1)", x.count(1), 20);
        }
    }

    private static void putCells() {
        says(4, "1 to 12 CELLS");
        due("none", with().put(0, 0), false);
        due("one", with().put(0, ONE), true);
        due("twelve", with().put(0, THREE_BY_FOUR), true);
        due("twelve, thin", with().put(0, CORNER_12), true);
        due("thirteen", with().put(0, THREE_BY_FOUR | 1L << 24), false);
        due("thirteen, thin", with().put(0, CORNER_12 | 64L << 48), false);
        due("forty-nine", with().put(0, 0x7F7F7F7F7F7F7FL), false);
    }

    private static void putTogether() {
        says(4, "that hang together (side by side)");
        due("side by side", with().put(0, TWO_ACROSS), true);
        due("one below the other", with().put(0, TWO_DOWN), true);
        due("aslant", with().put(0, 1 | 2 << 8), false);
        due("aslant the other way", with().put(0, 2 | 1 << 8), false);
        due("a place between", with().put(0, 5), false);
        due("a row between", with().put(0, 1 | 1 << 16), false);
        due("the last of a row and the first of the next", with().put(0, 64 | 1 << 8), false);
        due("the last of a row and the first but one", with().put(0, 64 | 1 << 16), false);
        due("two parts of six", with().put(0, 63 | 63 << 16), false);
    }

    private static void putBox() {
        says(4, "of which the least x and the least y are 0");
        due("x from 1 on", with().put(0, T << 1), false);
        due("y from 1 on", with().put(0, T << 8), false);
        due("no cell at 0, 0, though at 1, 0 and 0, 1", with().put(0, 2 | 3 << 8), true);
        says(4, "x and y 6 at most");
        due("x to 6", with().put(0, BAR_7), true);
        due("x to 7", with().put(0, 255), false);
        due("x to 7 in the second row", with().put(0, 127 | 192 << 8), false);
        due("y to 6", with().put(0, PILLAR_7), true);
        due("y to 7", with().put(0, PILLAR_7 | 1L << 56), false);
        due("y to 6, twelve cells", with().put(0, PILLAR_7 | 62L << 48), true);
        due("seven, x 7 and the first of the next row", with().put(0, 255 | 1 << 8), false);
        due("the highest bit too", with().put(0, BAR_7 | Long.MIN_VALUE), false);
    }

    private static void putRefused() {
        says(4, "false: no such DRAWER, it is no FIGURE's");
        long[] none = {
            0, THREE_BY_FOUR | 1L << 24, 5, 255, PILLAR_7 | 1L << 56, 2, 256, -1, Long.MIN_VALUE, Long.MAX_VALUE
        };
        for (long number : none) {
            unchanged("put(0, " + number + ")", () -> laden(T, L), 0, x -> x.put(0, number) ? 1 : 0);
            unchanged("put(7, " + number + ")", () -> laden(T, L), 0, x -> x.put(7, number) ? 1 : 0);
        }
        for (int d : new int[] {-1, 8, Integer.MIN_VALUE, Integer.MAX_VALUE}) {
            unchanged("put(" + d + ", 1)", () -> laden(T, L), 0, x -> x.put(d, 1) ? 1 : 0);
        }
    }

    private static void putTaken() {
        says(4, "The FIGURE of a NUMBER is put into a DRAWER: true");
        CellFigures x = laden(T, L);
        due("into one that holds another", x.put(0, U), true);
        due("the same again", x.put(0, U), true);
        dueText("put(0, ..)", seen(x), seen(laden(U, L)));
        x = laden(T, L);
        due("into the last one", x.put(7, BAR_7), true);
        dueText("put(7, ..)", seen(x), seen(laden(T, L, 0, 0, 0, 0, 0, BAR_7)));
    }

    /** All numbers that are a figure's but for one bit: which are some is as Model says. */
    private static void putOneBitOff() {
        says(4, "it is no FIGURE's");
        long eleven = THREE_BY_FOUR & ~(8 << 16);
        long wide = BAR_7 | 65 << 8 | 1 << 16;
        for (long number : new long[] {ONE, TWO_ACROSS, BAR_6, BAR_7, PILLAR_7, RING, THREE_BY_FOUR, eleven, HOOK, CORNER_12, wide}) {
            CellFigures x = new CellFigures();
            Model model = new Model();
            for (int bit = 0; bit < 64; bit++) {
                long other = number ^ 1L << bit;
                due("put(0, " + other + ")", x.put(0, other), model.put(0, other));
                due("number(0, 0) behind " + other, x.number(0, 0), model.number(0, 0));
            }
        }
    }

    private static void take() {
        says(5, "A DRAWER is empty: whether it was not (1, 0)");
        CellFigures x = laden(T, 0, L);
        due("take(0)", x.take(0), 1);
        due("take(0) again", x.take(0), 0);
        dueText("take(0)", seen(x), seen(laden(0, 0, L)));
        unchanged("take(1)", () -> laden(T, 0, L), 0, y -> y.take(1));
        x = with(T, L, U, RING, ONE, SQUARE, CROSS, ANGLE);
        for (int d = 0; d < 8; d++) {
            due("take(" + d + ")", x.take(d), 1);
            due("count(0)", x.count(0), 255 & ~((2 << d) - 1));
        }
        says(5, "NONE: no such one");
        unchanged("take(-1)", () -> laden(T), NONE, y -> y.take(-1));
        unchanged("take(8)", () -> laden(T), NONE, y -> y.take(8));
    }
}

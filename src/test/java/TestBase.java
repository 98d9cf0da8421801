/** What the tests share: answers held against those that are due, objects to begin with, all that can be seen of one. */
abstract class TestBase {
    static final int NONE = CellFigures.NONE;
    static final long ONE = 1;
    static final long TWO_ACROSS = 3;
    static final long TWO_DOWN = 257;
    static final long BAR_3 = 7;
    static final long ANGLE = 259;
    static final long BAR_4 = 15;
    static final long BAR_6 = 63;
    static final long BAR_7 = 127;
    static final long PILLAR_7 = 0x01010101010101L;
    static final long T = 519;
    static final long SQUARE = 771;
    static final long L = 263;
    static final long U = 5 + (7 << 8);
    static final long CROSS = 2 + (7 << 8) + (2 << 16);
    /** Three by three without the middle. */
    static final long RING = 7 + (5 << 8) + (7 << 16);
    /** The same without a corner too: two cells lie aslant. */
    static final long OPEN_RING = 7 + (5 << 8) + (3 << 16);
    static final long THREE_BY_FOUR = 0x0F0F0F;
    /** Seven down with a hook to the right, whose cave opens below alone. */
    static final long HOOK = 0x05050701010101L;
    /** Seven across, and five down from the last. */
    static final long CORNER_12 = 127 | 64L << 8 | 64L << 16 | 64L << 24 | 64L << 32 | 64L << 40;

    private static String about = "";
    private static int wrong;

    /** A call on an object; a boolean answer counts 1 or 0. */
    interface Call {
        long on(CellFigures x);
    }

    /** An object as a test begins with it, made anew each time. */
    interface Start {
        CellFigures make();
    }

    static void promise(int number) {
        about = "promise " + number;
    }

    /** The document's sentence that the answers behind it hold to. */
    static void says(int promise, String sentence) {
        about = "promise " + promise + " (" + sentence + ")";
    }

    static void due(String call, long got, long want) {
        if (got != want) {
            wrong++;
            System.out.println(about + ": " + call + " answered " + got + ", due is " + want);
        }
    }

    static void due(String call, boolean got, boolean want) {
        due(call, got ? 1 : 0, want ? 1 : 0);
    }

    static void dueText(String call, String got, String want) {
        if (!got.equals(want)) {
            wrong++;
            System.out.println(about + ": " + call + " left " + got + ", due is " + want);
        }
    }

    static void end(String name) {
        System.out.println(name + (wrong == 0 ? ": all answers are as due" : ": " + wrong + " answers are not as due"));
        if (wrong != 0) {
            System.exit(1);
        }
    }

    /** A new object with figures in its drawers from 0 on; 0 leaves one empty. */
    static CellFigures with(long... numbers) {
        CellFigures x = new CellFigures();
        for (int d = 0; d < numbers.length; d++) {
            if (numbers[d] != 0 && !x.put(d, numbers[d])) due("put of " + numbers[d], 0, 1);
        }
        return x;
    }

    private static int word(String text, int at) {
        int w = 0;
        for (int i = at; i < at + 4; i++) w = w << 8 | (i < text.length() ? text.charAt(i) & 255 : 'x');
        return w;
    }

    /** Feeds a text, and others behind it till the last twenty are whole. */
    static void tape(CellFigures x, String text) {
        for (int i = 0; i < text.length(); i += 20) {
            x.feed(word(text, i), word(text, i + 4), word(text, i + 8), word(text, i + 12), word(text, i + 16));
        }
    }

    static int read(CellFigures x, int d, String text) {
        tape(x, text);
        return x.figure(d, text.length());
    }

    /** As with(), and there are bytes on the tape and drawers kept twice: what a refused call could spoil. */
    static CellFigures laden(long... numbers) {
        CellFigures x = with(T, 0, 0, L);
        x.keep();
        x.swap(3, 6);
        x.put(0, U);
        x.keep();
        x.take(6);
        x.take(0);
        for (int d = 0; d < numbers.length; d++) {
            if (numbers[d] != 0 && !x.put(d, numbers[d])) due("put of " + numbers[d], 0, 1);
        }
        tape(x, "##/.#" + " ".repeat(75));
        return x;
    }

    /** All that can be seen of an object: drawers, counts, the tape, what is kept. It is used up by that. */
    static String seen(CellFigures x) {
        StringBuilder out = new StringBuilder(drawers(x));
        for (int what = 0; what < 3; what++) out.append(" count ").append(x.count(what));
        int fed = Math.min(60, x.count(1));
        out.append(" text ").append(x.figure(0, fed)).append(" of ").append(x.number(0, 0));
        for (int i = 0; i < 11; i++) out.append(" back ").append(x.back()).append(' ').append(drawers(x));
        return out.toString();
    }

    private static String drawers(CellFigures x) {
        StringBuilder out = new StringBuilder();
        for (int d = 0; d < 8; d++) out.append(d == 0 ? "[" : ", ").append(x.number(d, 0));
        return out.append(']').toString();
    }

    /** A call that is refused or asks alone: its answer is due, and all is as if it had not been made. */
    static void unchanged(String name, Start start, long want, Call call) {
        CellFigures x = start.make();
        due(name, call.on(x), want);
        dueText(name, seen(x), seen(start.make()));
    }
}

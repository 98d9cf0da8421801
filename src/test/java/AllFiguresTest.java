import java.util.ArrayList;
import java.util.List;
import java.util.TreeSet;

/** Every figure of up to seven cells, every two free ones of up to five, every list: each answer compared with Model's. */
public final class AllFiguresTest extends TestBase {
    private final CellFigures real = new CellFigures();
    private final Model model = new Model();

    public static void main(String[] args) {
        for (int n = 1; n <= 7; n++) {
            for (TreeSet<Model.P> figure : Model.all(n)) new AllFiguresTest().alone(Model.numberOf(figure));
        }
        List<Long> free = new ArrayList<>();
        for (int n = 1; n <= 5; n++) {
            for (TreeSet<Model.P> figure : Model.listOf(n, 2)) free.add(Model.numberOf(figure));
        }
        for (long first : free) {
            for (long second : free) new AllFiguresTest().together(first, second);
        }
        for (int n = 1; n <= 7; n++) {
            for (int kind = 0; kind < 3; kind++) new AllFiguresTest().list(n, kind);
        }
        end("all figures");
    }

    private void put(int d, long number) {
        due("put of " + number, real.put(d, number), true);
        due("Model's put of " + number, model.put(d, number), true);
    }

    /** All that is asked of one figure. */
    private void alone(long number) {
        put(0, number);
        String of = " of " + number;
        for (int what = 0; what < 15; what++) due("told " + what + of, real.told(0, what), model.told(0, what));
        for (int what = 0; what < 8; what++) due("part " + what + of, real.part(0, what), model.part(0, what));
        for (int what = 0; what < 6; what++) due("tiles " + what + of, real.tiles(0, what), model.tiles(0, what));
        for (int what = 0; what < 5; what++) due("vector " + what + of, real.vector(0, what), model.vector(0, what));
        for (int i = 0; i < 18; i++) due("line " + i + of, real.line(0, i), model.line(0, i));
        due("farthest" + of, real.farthest(0, true), model.farthest(0, true));
        due("the farthest" + of, real.farthest(0, false), model.farthest(0, false));
        for (int kind = 0; kind < 3; kind++) {
            due("number " + kind + of, real.number(0, kind), model.number(0, kind));
            due("place " + kind + of, real.place(0, kind), model.place(0, kind));
            kin(kind, true, of);
            kin(kind, false, of);
        }
        for (int what = 0; what < 3; what++) {
            due("owner " + what + of, real.owner(0, 13, -17, what), model.owner(0, 13, -17, what));
        }
        for (int t = 0; t < 8; t++) due("turn " + t + of, real.turn(0, t), model.turn(0, t));
    }

    private void kin(int kind, boolean more, String of) {
        int size = model.kin(0, kind, more);
        due("kin " + kind + " " + more + of, real.kin(0, kind, more), size);
        for (int k = 0; k <= size; k++) {
            due("kinAt " + kind + " " + more + " " + k + of, real.kinAt(0, kind, more, k), model.kinAt(0, kind, more, k));
        }
    }

    /** All that is asked of two figures. */
    private void together(long first, long second) {
        put(0, first);
        put(1, second);
        String of = " of " + first + " and " + second;
        for (int what = 0; what < 6; what++) due("touch " + what + of, real.touch(0, 1, what), model.touch(0, 1, what));
        for (int kind = 0; kind < 3; kind++) due("alike " + kind + of, real.alike(0, 1, kind), model.alike(0, 1, kind));
        due("inside" + of, real.inside(0, 1, false), model.inside(0, 1, false));
        due("inside, turned," + of, real.inside(0, 1, true), model.inside(0, 1, true));
        due("common" + of, real.common(0, 1), model.common(0, 1));
        due("way" + of, real.way(0, 1), model.way(0, 1));
        for (int v = -4; v <= 4; v += 2) {
            for (int u = -4; u <= 4; u++) {
                due("share " + u + " " + v + of, real.share(0, 1, u, v), model.share(0, 1, u, v));
            }
        }
    }

    /** All that is asked of a list. */
    private void list(int n, int kind) {
        String of = " of " + n + " cells and kind " + kind;
        due("list" + of, real.list(n, kind), model.list(n, kind));
        due("tilers" + of, real.tilers(n, kind), model.tilers(n, kind));
        for (int what = 0; what < 15; what++) {
            due("crowd " + what + of, real.crowd(n, kind, what, true), model.crowd(n, kind, what, true));
            due("crowds " + what + of, real.crowd(n, kind, what, false), model.crowd(n, kind, what, false));
            for (int value = 0; value < 17; value++) {
                due("many " + what + " " + value + of, real.many(n, kind, what, value, value), model.many(n, kind, what, value, value));
            }
        }
    }
}

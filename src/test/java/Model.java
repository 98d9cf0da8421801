import java.util.ArrayDeque;
import java.util.ArrayList;
import java.util.Arrays;
import java.util.HashMap;
import java.util.HashSet;
import java.util.List;
import java.util.Map;
import java.util.Set;
import java.util.TreeMap;
import java.util.TreeSet;

/**
 * A second CellFigures, written from the document alone, with sets of points in place of bits, and by other
 * ways wherever there are any. It is slow and makes what it likes; the tests compare answers with it.
 */
final class Model {
    record P(int x, int y) implements Comparable<P> {
        public int compareTo(P o) {
            return y != o.y ? Integer.compare(y, o.y) : Integer.compare(x, o.x);
        }

        P plus(int u, int v) {
            return new P(x + u, y + v);
        }

        List<P> sides() {
            return List.of(plus(1, 0), plus(0, 1), plus(-1, 0), plus(0, -1));
        }
    }

    private static final int NONE = -1;
    private static final Map<Integer, List<TreeSet<P>>> ALL = new HashMap<>();
    private static final Map<String, List<TreeSet<P>>> LISTS = new HashMap<>();
    private static final Map<Long, TreeMap<Long, Integer>> DISTANCES = new HashMap<>();
    private static final Map<String, Integer> TOLD = new HashMap<>();

    private final List<TreeSet<P>> drawers = new ArrayList<>(Arrays.asList(null, null, null, null, null, null, null, null));
    private final ArrayDeque<List<TreeSet<P>>> kept = new ArrayDeque<>();
    private final List<Integer> tape = new ArrayList<>();

    // ---- figures

    static TreeSet<P> moved(Set<P> cells, int u, int v) {
        TreeSet<P> out = new TreeSet<>();
        for (P p : cells) out.add(p.plus(u, v));
        return out;
    }

    static int least(Set<P> cells, boolean ofX) {
        return cells.stream().mapToInt(p -> ofX ? p.x : p.y).min().getAsInt();
    }

    static int span(Set<P> cells, boolean ofX) {
        return cells.stream().mapToInt(p -> ofX ? p.x : p.y).max().getAsInt() - least(cells, ofX) + 1;
    }

    static TreeSet<P> home(Set<P> cells) {
        return moved(cells, -least(cells, true), -least(cells, false));
    }

    static Set<P> hangingWith(P start, Set<P> ground) {
        Set<P> seen = new HashSet<>(Set.of(start));
        ArrayDeque<P> open = new ArrayDeque<>(seen);
        while (!open.isEmpty()) {
            for (P q : open.poll().sides()) if (ground.contains(q) && seen.add(q)) open.add(q);
        }
        return seen;
    }

    static boolean hangs(Set<P> cells) {
        return !cells.isEmpty() && hangingWith(cells.iterator().next(), cells).size() == cells.size();
    }

    /** Whether the cells, moved home, are a figure. */
    static boolean mayBeFigure(Set<P> cells) {
        return hangs(cells) && cells.size() <= 12 && span(cells, true) <= 7 && span(cells, false) <= 7;
    }

    static long numberOf(Set<P> cells) {
        long n = 0;
        for (P p : cells) n += 1L << (8 * p.y + p.x);
        return n;
    }

    static TreeSet<P> cellsOf(long number) {
        TreeSet<P> cells = new TreeSet<>();
        for (int i = 0; i < 64; i++) if ((number >> i & 1) == 1) cells.add(new P(i % 8, i / 8));
        return cells;
    }

    static TreeSet<P> turnedBy(Set<P> cells, int t) {
        TreeSet<P> out = new TreeSet<>();
        for (P p : cells) {
            P q = t >= 4 ? new P(-p.x, p.y) : p;
            for (int i = 0; i < t % 4; i++) q = new P(-q.y, q.x);
            out.add(q);
        }
        return home(out);
    }

    static TreeSet<P> ofKind(Set<P> cells, int kind) {
        TreeSet<P> best = new TreeSet<>(cells);
        int turns = new int[] {1, 4, 8}[kind];
        for (int t = 1; t < turns; t++) {
            TreeSet<P> other = turnedBy(cells, t);
            if (numberOf(other) < numberOf(best)) best = other;
        }
        return best;
    }

    static List<TreeSet<P>> sorted(Set<TreeSet<P>> figures) {
        List<TreeSet<P>> out = new ArrayList<>(figures);
        out.sort((a, b) -> Long.compare(numberOf(a), numberOf(b)));
        return out;
    }

    static List<TreeSet<P>> all(int n) {
        List<TreeSet<P>> known = ALL.get(n);
        if (known != null) return known;
        Set<TreeSet<P>> found = new HashSet<>();
        if (n == 1) found.add(cellsOf(1));
        else for (TreeSet<P> f : all(n - 1)) for (P p : f) for (P q : p.sides()) {
            TreeSet<P> g = new TreeSet<>(f);
            if (g.add(q)) found.add(home(g));
        }
        ALL.put(n, sorted(found));
        return ALL.get(n);
    }

    static List<TreeSet<P>> listOf(int n, int kind) {
        return LISTS.computeIfAbsent(n + " " + kind, k -> {
            List<TreeSet<P>> out = new ArrayList<>();
            for (TreeSet<P> f : all(n)) if (ofKind(f, kind).equals(f)) out.add(f);
            return out;
        });
    }

    // ---- told

    static int toldOf(TreeSet<P> f, int what) {
        return TOLD.computeIfAbsent(numberOf(f) + " " + what, k -> reckon(f, what));
    }

    private static int reckon(TreeSet<P> f, int what) {
        switch (what) {
            case 0: return f.size();
            case 1: return span(f, true);
            case 2: return span(f, false);
            case 3: return (int) f.stream().flatMap(p -> p.sides().stream()).filter(q -> !f.contains(q)).count();
            case 4: return holes(f).size();
            case 5: return holes(f).stream().mapToInt(Set::size).sum();
            case 6: return (int) f.stream().filter(p -> isCut(f, p)).count();
            case 7: return beside(f).size();
            case 8: return corners(f, true);
            case 9: return corners(f, false);
            case 10: return (int) f.stream().filter(p -> f.containsAll(List.of(p.plus(1, 0), p.plus(0, 1), p.plus(1, 1)))).count();
            case 11: return isWhole(f) ? 1 : 0;
            case 12: return isWhole(turnedBy(f, 1)) ? 1 : 0;
            case 13: return (int) java.util.stream.IntStream.range(0, 8).filter(t -> turnedBy(f, t).equals(f)).count();
            case 14: return twosOf(f).size();
            default: throw new IllegalStateException();
        }
    }

    static List<P[]> twosOf(TreeSet<P> f) {
        List<P[]> out = new ArrayList<>();
        for (P p : f) for (P q : f) if (p.compareTo(q) < 0 && p.sides().contains(q)) out.add(new P[] {p, q});
        return out;
    }

    static List<Set<P>> holes(Set<P> f) {
        Set<P> ground = new HashSet<>();
        for (int x = -1; x <= 7; x++) for (int y = -1; y <= 7; y++) if (!f.contains(new P(x, y))) ground.add(new P(x, y));
        ground.removeAll(hangingWith(new P(-1, -1), ground));
        List<Set<P>> out = new ArrayList<>();
        while (!ground.isEmpty()) {
            Set<P> hole = hangingWith(ground.iterator().next(), ground);
            out.add(hole);
            ground.removeAll(hole);
        }
        return out;
    }

    static boolean isCut(Set<P> f, P p) {
        Set<P> rest = new TreeSet<>(f);
        rest.remove(p);
        return f.size() > 1 && !hangs(rest);
    }

    static TreeSet<P> beside(Set<P> f) {
        TreeSet<P> out = new TreeSet<>();
        for (P p : f) out.addAll(p.sides());
        out.removeAll(f);
        return out;
    }

    static int corners(Set<P> f, boolean outer) {
        int n = 0;
        for (int x = 0; x <= 7; x++) for (int y = 0; y <= 7; y++) {
            boolean a = f.contains(new P(x - 1, y - 1));
            boolean b = f.contains(new P(x, y - 1));
            boolean c = f.contains(new P(x - 1, y));
            boolean d = f.contains(new P(x, y));
            int cells = (a ? 1 : 0) + (b ? 1 : 0) + (c ? 1 : 0) + (d ? 1 : 0);
            if (outer && cells == 1) n++;
            if (outer && cells == 2 && a == d) n += 2;
            if (!outer && cells == 3) n++;
        }
        return n;
    }

    static boolean hasAslant(Set<P> f) {
        for (P p : f) {
            for (int u = -1; u <= 1; u += 2) {
                if (f.contains(p.plus(u, 1)) && !f.contains(p.plus(u, 0)) && !f.contains(p.plus(0, 1))) return true;
            }
        }
        return false;
    }

    static boolean isWhole(TreeSet<P> f) {
        for (P p : f) for (P q : f) {
            if (p.y == q.y) for (int x = p.x; x < q.x; x++) if (!f.contains(new P(x, p.y))) return false;
        }
        return true;
    }

    // ---- growing, shrinking, ways

    static List<TreeSet<P>> kinOf(TreeSet<P> f, int kind, boolean more) {
        Set<TreeSet<P>> out = new HashSet<>();
        for (P p : more ? beside(f) : f) {
            TreeSet<P> g = new TreeSet<>(f);
            if (more) g.add(p);
            else g.remove(p);
            if (!g.isEmpty() && mayBeFigure(g)) out.add(ofKind(home(g), kind));
        }
        return sorted(out);
    }

    static TreeMap<Long, Integer> distances(TreeSet<P> from) {
        long start = numberOf(ofKind(from, 2));
        TreeMap<Long, Integer> known = DISTANCES.get(start);
        if (known != null) return known;
        TreeMap<Long, Integer> out = new TreeMap<>(Map.of(start, 0));
        ArrayDeque<Long> open = new ArrayDeque<>(List.of(start));
        while (!open.isEmpty()) {
            long at = open.poll();
            for (long next : stepsFrom(cellsOf(at))) {
                if (out.putIfAbsent(next, out.get(at) + 1) == null) open.add(next);
            }
        }
        DISTANCES.put(start, out);
        return out;
    }

    static Set<Long> stepsFrom(TreeSet<P> f) {
        Set<Long> out = new TreeSet<>();
        for (P p : f) for (int x = -1; x <= 7; x++) for (int y = -1; y <= 7; y++) {
            TreeSet<P> g = new TreeSet<>(f);
            g.remove(p);
            P q = new P(x, y);
            if (q.equals(p) || !g.add(q) || !mayBeFigure(g)) continue;
            out.add(numberOf(ofKind(home(g), 2)));
        }
        return out;
    }

    static TreeSet<P> lots(int seed, int n) {
        TreeSet<P> f = new TreeSet<>(Set.of(new P(0, 0)));
        long x = Math.floorMod((long) seed, 65536L);
        while (f.size() < n) {
            List<P> places = new ArrayList<>();
            for (P p : beside(f)) {
                TreeSet<P> g = new TreeSet<>(f);
                g.add(p);
                if (span(g, true) <= 7 && span(g, false) <= 7) places.add(p);
            }
            x = (25173 * x + 13849) % 65536;
            f.add(places.get((int) (x / 4 % places.size())));
        }
        return home(f);
    }

    // ---- the line, tiling

    /** The line as a text of digits; null if there is none. */
    static String lineOf(TreeSet<P> f) {
        if (!holes(f).isEmpty() || hasAslant(f)) return null;
        Map<P, Integer> letterFrom = new HashMap<>();
        for (P p : f) {
            if (!f.contains(p.plus(0, -1))) letterFrom.put(p, 0);
            if (!f.contains(p.plus(1, 0))) letterFrom.put(p.plus(1, 0), 1);
            if (!f.contains(p.plus(0, 1))) letterFrom.put(p.plus(1, 1), 2);
            if (!f.contains(p.plus(-1, 0))) letterFrom.put(p.plus(0, 1), 3);
        }
        P start = f.first();
        P at = start;
        StringBuilder line = new StringBuilder();
        do {
            int letter = letterFrom.get(at);
            line.append(letter);
            at = at.plus(new int[] {1, 0, -1, 0}[letter], new int[] {0, 1, 0, -1}[letter]);
        } while (!at.equals(start));
        return line.toString();
    }

    static String reversed(String part) {
        StringBuilder out = new StringBuilder();
        for (char c : part.toCharArray()) out.append("2301".charAt(c - '0'));
        return out.reverse().toString();
    }

    /** Place, A, B, C of each cutting. */
    static List<int[]> cuttings(String line) {
        List<int[]> out = new ArrayList<>();
        int half = line.length() / 2;
        for (int p = 0; p < half; p++) for (int a = 1; a <= half; a++) for (int b = 1; a + b <= half; b++) {
            String begun = line.substring(p) + line.substring(0, p);
            String first = begun.substring(0, a);
            String second = begun.substring(a, a + b);
            String third = begun.substring(a + b, half);
            if (begun.equals(first + second + third + reversed(first) + reversed(second) + reversed(third))) {
                out.add(new int[] {p, a, b, half - a - b});
            }
        }
        return out;
    }

    static int[] sum(String letters) {
        int[] out = new int[2];
        for (char c : letters.toCharArray()) {
            if (c == '0') out[0]++;
            if (c == '1') out[1]++;
            if (c == '2') out[0]--;
            if (c == '3') out[1]--;
        }
        return out;
    }

    static int[] movesOf(String line, int[] cutting) {
        String twice = line + line;
        int[] first = sum(twice.substring(cutting[0], cutting[0] + cutting[1] + cutting[2]));
        int[] second = sum(twice.substring(cutting[0] + cutting[1], cutting[0] + line.length() / 2));
        return new int[] {first[0], first[1], second[0], second[1]};
    }

    private static final class Fill {
        final List<TreeSet<P>> figures;
        final TreeSet<P> free = new TreeSet<>();
        int tries;
        int ways;

        Fill(List<TreeSet<P>> figures, int w, int h) {
            this.figures = figures;
            for (int x = 0; x < w; x++) for (int y = 0; y < h; y++) free.add(new P(x, y));
        }

        void go() {
            if (free.isEmpty()) {
                ways++;
                return;
            }
            P first = free.first();
            for (TreeSet<P> f : figures) {
                if (++tries > 20000) return;
                P own = f.first();
                TreeSet<P> there = moved(f, first.x - own.x, first.y - own.y);
                if (free.containsAll(there)) {
                    free.removeAll(there);
                    go();
                    free.addAll(there);
                }
            }
        }
    }

    // ---- parts

    static long orders(TreeSet<P> f, Map<TreeSet<P>, Long> known) {
        if (f.size() == 1) return 1;
        Long there = known.get(f);
        if (there != null) return there;
        long n = 0;
        for (P p : f) {
            TreeSet<P> rest = new TreeSet<>(f);
            rest.remove(p);
            if (hangs(rest)) n += orders(rest, known);
        }
        known.put(f, n);
        return n;
    }

    static long pairings(TreeSet<P> f) {
        if (f.isEmpty()) return 1;
        long n = 0;
        P p = f.first();
        for (P q : p.sides()) {
            if (f.contains(q)) {
                TreeSet<P> rest = new TreeSet<>(f);
                rest.removeAll(List.of(p, q));
                n += pairings(rest);
            }
        }
        return n;
    }

    static List<TreeSet<P>> subsets(TreeSet<P> f) {
        List<P> cells = new ArrayList<>(f);
        List<TreeSet<P>> out = new ArrayList<>();
        for (int s = 1; s < 1 << cells.size(); s++) {
            TreeSet<P> set = new TreeSet<>();
            for (int i = 0; i < cells.size(); i++) if ((s >> i & 1) == 1) set.add(cells.get(i));
            out.add(set);
        }
        return out;
    }

    static long halvings(TreeSet<P> f, int kind) {
        long twice = 0;
        for (TreeSet<P> half : subsets(f)) {
            TreeSet<P> other = new TreeSet<>(f);
            other.removeAll(half);
            if (half.size() == other.size() && hangs(half) && hangs(other)
                && ofKind(home(half), kind).equals(ofKind(home(other), kind))) twice++;
        }
        return twice / 2;
    }

    static long longest(TreeSet<P> f) {
        int best = 0;
        for (P p : f) {
            Map<P, Integer> far = new HashMap<>(Map.of(p, 0));
            ArrayDeque<P> open = new ArrayDeque<>(List.of(p));
            while (!open.isEmpty()) {
                P at = open.poll();
                best = Math.max(best, far.get(at));
                for (P q : at.sides()) if (f.contains(q) && far.putIfAbsent(q, far.get(at) + 1) == null) open.add(q);
            }
        }
        return best;
    }

    static long trees(TreeSet<P> f) {
        List<P[]> twos = twosOf(f);
        List<P> cells = new ArrayList<>(f);
        long n = 0;
        for (int s = 0; s < 1 << twos.size(); s++) {
            if (Integer.bitCount(s) != f.size() - 1) continue;
            int[] group = new int[cells.size()];
            for (int i = 0; i < group.length; i++) group[i] = i;
            boolean whole = true;
            for (int i = 0; i < twos.size(); i++) {
                if ((s >> i & 1) == 0) continue;
                int a = group[cells.indexOf(twos.get(i)[0])];
                int b = group[cells.indexOf(twos.get(i)[1])];
                whole &= a != b;
                for (int j = 0; j < group.length; j++) if (group[j] == a) group[j] = b;
            }
            if (whole) n++;
        }
        return n;
    }

    static Set<TreeSet<P>> placings(Set<P> first, TreeSet<P> second, boolean turned) {
        Set<TreeSet<P>> out = new HashSet<>();
        for (int t = 0; t < (turned ? 8 : 1); t++) {
            TreeSet<P> form = turnedBy(first, t);
            for (int u = 0; u < 7; u++) for (int v = 0; v < 7; v++) {
                TreeSet<P> there = moved(form, u, v);
                if (second.containsAll(there)) out.add(there);
            }
        }
        return out;
    }

    // ---- the face

    private static boolean in(int v, int low, int high) {
        return v >= low && v <= high;
    }

    private static boolean drawer(int d) {
        return in(d, 0, 7);
    }

    private static boolean kindIs(int k) {
        return in(k, 0, 2);
    }

    private static boolean listIs(int n, int k) {
        return in(n, 1, 7) && kindIs(k);
    }

    private boolean empty(int d) {
        return drawers.get(d) == null;
    }

    int feed(int a, int b, int c, int d, int e) {
        if (tape.size() > 100) return NONE;
        for (int w : new int[] {a, b, c, d, e}) for (int s = 3; s >= 0; s--) tape.add(w >> 8 * s & 255);
        return tape.size();
    }

    int figure(int d, int n) {
        if (!drawer(d) || !in(n, 1, 60) || n > tape.size()) return NONE;
        List<Integer> text = new ArrayList<>(tape.subList(0, n));
        tape.clear();
        TreeSet<P> cells = new TreeSet<>();
        int x = 0;
        int y = 0;
        for (int i = 0; i < n; i++) {
            int sign = text.get(i);
            if ("#./ ".indexOf(sign) < 0) return -1000 - i;
            if (sign == '/') {
                if (++y == 7) return -3000 - i;
                x = 0;
            } else if (sign != ' ') {
                if (x == 7) return -2000 - i;
                if (sign == '#') {
                    if (cells.size() == 12) return -4000 - i;
                    cells.add(new P(x, y));
                }
                x++;
            }
        }
        if (!hangs(cells)) return -5000 - n;
        drawers.set(d, home(cells));
        return cells.size();
    }

    boolean put(int d, long number) {
        if (!drawer(d) || number <= 0) return false;
        TreeSet<P> f = cellsOf(number);
        if (!mayBeFigure(f) || !home(f).equals(f)) return false;
        drawers.set(d, f);
        return true;
    }

    int take(int d) {
        if (!drawer(d)) return NONE;
        return drawers.set(d, null) == null ? 0 : 1;
    }

    int told(int d, int what) {
        if (!drawer(d) || !in(what, 0, 14)) return NONE;
        return empty(d) ? -2 : toldOf(drawers.get(d), what);
    }

    int cell(int d, int x, int y) {
        if (!drawer(d) || !in(x, 0, 6) || !in(y, 0, 6)) return NONE;
        return empty(d) ? -2 : drawers.get(d).contains(new P(x, y)) ? 1 : 0;
    }

    long number(int d, int kind) {
        if (!drawer(d) || !kindIs(kind)) return NONE;
        return empty(d) ? -2 : numberOf(ofKind(drawers.get(d), kind));
    }

    long turn(int d, int t) {
        if (!drawer(d) || !in(t, 0, 7)) return NONE;
        if (empty(d)) return -2;
        drawers.set(d, turnedBy(drawers.get(d), t));
        return numberOf(drawers.get(d));
    }

    int alike(int d, int e, int kind) {
        if (!drawer(d) || !drawer(e) || !kindIs(kind)) return NONE;
        if (empty(d) || empty(e)) return -2;
        return ofKind(drawers.get(d), kind).equals(ofKind(drawers.get(e), kind)) ? 1 : 0;
    }

    private int set(int d, TreeSet<P> cells) {
        if (cells.isEmpty() || !mayBeFigure(cells)) return -3;
        drawers.set(d, home(cells));
        return cells.size();
    }

    int change(int d, int x, int y, boolean is) {
        if (!drawer(d) || !in(x, -1, 7) || !in(y, -1, 7)) return NONE;
        if (empty(d)) return -2;
        TreeSet<P> cells = new TreeSet<>(drawers.get(d));
        boolean changed = is ? cells.add(new P(x, y)) : cells.remove(new P(x, y));
        return changed ? set(d, cells) : -3;
    }

    int list(int n, int kind) {
        return listIs(n, kind) ? listOf(n, kind).size() : NONE;
    }

    long listed(int n, int kind, int k) {
        if (!listIs(n, kind) || k < 0) return NONE;
        return k < listOf(n, kind).size() ? numberOf(listOf(n, kind).get(k)) : -2;
    }

    int place(int d, int kind) {
        if (!drawer(d) || !kindIs(kind)) return NONE;
        if (empty(d)) return -2;
        TreeSet<P> f = drawers.get(d);
        return f.size() > 7 ? -3 : listOf(f.size(), kind).indexOf(ofKind(f, kind));
    }

    private static List<TreeSet<P>> chosen(int n, int kind, int what, int low, int high) {
        List<TreeSet<P>> out = new ArrayList<>();
        for (TreeSet<P> f : listOf(n, kind)) if (in(toldOf(f, what), low, high)) out.add(f);
        return out;
    }

    int many(int n, int kind, int what, int low, int high) {
        if (!listIs(n, kind) || !in(what, 0, 14) || high < low) return NONE;
        return chosen(n, kind, what, low, high).size();
    }

    long found(int n, int kind, int what, int low, int high, int k) {
        if (!listIs(n, kind) || !in(what, 0, 14) || high < low || k < 0) return NONE;
        List<TreeSet<P>> out = chosen(n, kind, what, low, high);
        return k < out.size() ? numberOf(out.get(k)) : -2;
    }

    int crowd(int n, int kind, int what, boolean most) {
        if (!listIs(n, kind) || !in(what, 0, 14)) return NONE;
        Map<Integer, Integer> crowds = new TreeMap<>();
        for (TreeSet<P> f : listOf(n, kind)) crowds.merge(toldOf(f, what), 1, Integer::sum);
        return most ? java.util.Collections.max(crowds.values()) : crowds.size();
    }

    int kin(int d, int kind, boolean more) {
        if (!drawer(d) || !kindIs(kind)) return NONE;
        return empty(d) ? -2 : kinOf(drawers.get(d), kind, more).size();
    }

    long kinAt(int d, int kind, boolean more, int k) {
        if (!drawer(d) || !kindIs(kind) || k < 0) return NONE;
        if (empty(d)) return -2;
        List<TreeSet<P>> kin = kinOf(drawers.get(d), kind, more);
        return k < kin.size() ? numberOf(kin.get(k)) : -3;
    }

    int way(int d, int e) {
        if (!drawer(d) || !drawer(e)) return NONE;
        if (empty(d) || empty(e)) return -2;
        if (drawers.get(d).size() != drawers.get(e).size() || drawers.get(d).size() > 6) return -3;
        return distances(drawers.get(d)).get(numberOf(ofKind(drawers.get(e), 2)));
    }

    int farthest(int d, boolean far) {
        if (!drawer(d)) return NONE;
        if (empty(d)) return -2;
        if (drawers.get(d).size() > 6) return -3;
        List<Integer> all = new ArrayList<>(distances(drawers.get(d)).values());
        int most = java.util.Collections.max(all);
        return far ? most : java.util.Collections.frequency(all, most);
    }

    long drawn(int d, int seed, int n) {
        if (!drawer(d) || !in(n, 1, 12)) return NONE;
        drawers.set(d, lots(seed, n));
        return numberOf(drawers.get(d));
    }

    int line(int d, int i) {
        if (!drawer(d) || i < 0) return NONE;
        if (empty(d)) return -2;
        String line = lineOf(drawers.get(d));
        if (line == null) return -3;
        return i < line.length() ? line.charAt(i) - '0' : -4;
    }

    int tiles(int d, int what) {
        if (!drawer(d) || !in(what, 0, 5)) return NONE;
        if (empty(d)) return -2;
        String line = lineOf(drawers.get(d));
        if (line == null) return -3;
        List<int[]> all = cuttings(line);
        if (what == 0) return all.size();
        if (what == 1) return (int) all.stream().filter(c -> c[3] == 0).count();
        return all.isEmpty() ? -4 : all.get(0)[what - 2];
    }

    int tilers(int n, int kind) {
        if (!listIs(n, kind)) return NONE;
        int out = 0;
        for (TreeSet<P> f : listOf(n, kind)) {
            out += TOLD.computeIfAbsent(numberOf(f) + " tiles", k -> {
                String line = lineOf(f);
                return line != null && !cuttings(line).isEmpty() ? 1 : 0;
            });
        }
        return out;
    }

    int fill(int w, int h, int some, boolean turned) {
        if (!in(w, 1, 6) || !in(h, 1, 6) || !in(some, 1, 255)) return NONE;
        Set<TreeSet<P>> forms = new HashSet<>();
        for (int d = 0; d < 8; d++) {
            if ((some >> d & 1) == 0) continue;
            if (empty(d)) return -2;
            for (int t = 0; t < (turned ? 8 : 1); t++) forms.add(turnedBy(drawers.get(d), t));
        }
        Fill fill = new Fill(sorted(forms), w, h);
        fill.go();
        return fill.tries > 20000 ? -3 : fill.ways;
    }

    /** The four of the moves by the first cutting, or the refusal alone. */
    private int[] moves(int d) {
        if (empty(d)) return new int[] {-2};
        String line = lineOf(drawers.get(d));
        if (line == null) return new int[] {-3};
        List<int[]> all = cuttings(line);
        return all.isEmpty() ? new int[] {-4} : movesOf(line, all.get(0));
    }

    int vector(int d, int what) {
        if (!drawer(d) || !in(what, 0, 4)) return NONE;
        int[] m = moves(d);
        if (m.length == 1) return m[0];
        return what < 4 ? m[what] + 10 : Math.abs(m[0] * m[3] - m[1] * m[2]);
    }

    int owner(int d, int x, int y, int what) {
        if (!drawer(d) || !in(x, -20, 20) || !in(y, -20, 20) || !in(what, 0, 2)) return NONE;
        int[] m = moves(d);
        if (m.length == 1) return m[0];
        List<int[]> owners = new ArrayList<>();
        for (int i = -99; i <= 99; i++) for (int j = -99; j <= 99; j++) {
            P own = new P(x - i * m[0] - j * m[2], y - i * m[1] - j * m[3]);
            if (drawers.get(d).contains(own)) owners.add(new int[] {100 + i, 100 + j, 8 * own.y + own.x});
        }
        if (owners.size() != 1) throw new IllegalStateException("a place with " + owners.size() + " owners");
        return owners.get(0)[what];
    }

    long part(int d, int what) {
        if (!drawer(d) || !in(what, 0, 7)) return NONE;
        if (empty(d)) return -2;
        TreeSet<P> f = drawers.get(d);
        switch (what) {
            case 0: return orders(f, new HashMap<>());
            case 1: return pairings(f);
            case 2: case 3: case 4: return halvings(f, what - 2);
            case 5: return longest(f);
            case 6: return trees(f);
            default: return Math.abs(f.stream().mapToInt(p -> (p.x + p.y) % 2 == 0 ? 1 : -1).sum());
        }
    }

    int inside(int d, int e, boolean turned) {
        if (!drawer(d) || !drawer(e)) return NONE;
        if (empty(d) || empty(e)) return -2;
        return placings(drawers.get(d), drawers.get(e), turned).size();
    }

    int common(int d, int e) {
        if (!drawer(d) || !drawer(e)) return NONE;
        if (empty(d) || empty(e)) return -2;
        int best = 0;
        for (TreeSet<P> part : subsets(drawers.get(d))) {
            if (part.size() > best && hangs(part) && !placings(home(part), drawers.get(e), true).isEmpty()) best = part.size();
        }
        return best;
    }

    int keep() {
        if (kept.size() == 10) return NONE;
        kept.push(new ArrayList<>(drawers));
        return kept.size();
    }

    int back() {
        if (kept.isEmpty()) return NONE;
        List<TreeSet<P>> then = kept.pop();
        for (int d = 0; d < 8; d++) drawers.set(d, then.get(d));
        return kept.size();
    }

    int join(int d, int e, int u, int v, boolean more) {
        if (!drawer(d) || !drawer(e) || !in(u, -7, 7) || !in(v, -7, 7)) return NONE;
        if (empty(d) || empty(e)) return -2;
        TreeSet<P> cells = new TreeSet<>(drawers.get(d));
        TreeSet<P> others = moved(drawers.get(e), u, v);
        if (more) cells.addAll(others);
        else cells.removeAll(others);
        return set(d, cells);
    }

    int swap(int d, int e) {
        if (!drawer(d) || !drawer(e)) return NONE;
        TreeSet<P> first = drawers.get(d);
        TreeSet<P> second = drawers.get(e);
        drawers.set(d, second);
        drawers.set(e, first);
        return java.util.Objects.equals(first, second) ? 0 : 1;
    }

    /** The sides that two share; -3 if they overlap. */
    private static int sharing(TreeSet<P> first, TreeSet<P> second) {
        int n = 0;
        for (P p : first) {
            if (second.contains(p)) return -3;
            for (P q : p.sides()) if (second.contains(q)) n++;
        }
        return n;
    }

    int share(int d, int e, int u, int v) {
        if (!drawer(d) || !drawer(e) || !in(u, -7, 7) || !in(v, -7, 7)) return NONE;
        if (empty(d) || empty(e)) return -2;
        return sharing(drawers.get(d), moved(drawers.get(e), u, v));
    }

    int touch(int d, int e, int what) {
        if (!drawer(d) || !drawer(e) || !in(what, 0, 5)) return NONE;
        if (empty(d) || empty(e)) return -2;
        int[] out = {0, 0, 0, 0, 0, Integer.MAX_VALUE};
        for (int v = -7; v <= 7; v++) for (int u = -7; u <= 7; u++) {
            TreeSet<P> other = moved(drawers.get(e), u, v);
            int shared = sharing(drawers.get(d), other);
            if (shared == -3) {
                out[0]++;
                continue;
            }
            if (shared > 0) out[1]++;
            if (shared > out[2]) {
                out[2] = shared;
                out[3] = u + 10;
                out[4] = v + 10;
            }
            other.addAll(drawers.get(d));
            out[5] = Math.min(out[5], span(other, true) * span(other, false));
        }
        return out[what];
    }

    int count(int what) {
        int bits = 0;
        int cells = 0;
        for (int d = 0; d < 8; d++) {
            if (!empty(d)) {
                bits |= 1 << d;
                cells += drawers.get(d).size();
            }
        }
        return what == 0 ? bits : what == 1 ? tape.size() : what == 2 ? cells : NONE;
    }
}

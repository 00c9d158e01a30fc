import java.util.ArrayDeque;
import java.util.ArrayList;
import java.util.Arrays;
import java.util.Deque;
import java.util.List;
import java.util.regex.Matcher;
import java.util.regex.Pattern;

/**
 * The document again, by other means than the class: roots by the form of Tits alone, FINITE by
 * determinants, TAU by the rows of paths, SUMS by a table, the text by a pattern.
 */
final class Model {
    static final int NONE = -1000000, UNKNOWN = -1000001, OUTSIDE = -1000002, NOT = -1000003,
        FULL = -1000004, NULL = -1000011, EMPTY = -1000012, ROOM = -1000013, SIZE = -1000014;
    /** The table for SUMS would be too great: no answer is due. */
    static final int UNTOLD = Integer.MIN_VALUE;

    static final class State {
        int n = 3;
        List<int[]> arrows = new ArrayList<>();
        int[] x = new int[3];

        State copy() {
            State s = new State();
            s.n = n;
            for (int[] a : arrows) {
                s.arrows.add(a.clone());
            }
            s.x = x.clone();
            return s;
        }

        int euler(int[] y, int[] z) {
            int e = 0;
            for (int i = 0; i < n; i++) {
                e += y[i] * z[i];
            }
            for (int[] a : arrows) {
                e -= y[a[0]] * z[a[1]];
            }
            return e;
        }

        int[] unit(int p) {
            int[] u = new int[n];
            u[p] = 1;
            return u;
        }

        int paths(int from, int to) {
            int ways = from == to ? 1 : 0;
            for (int[] a : arrows) {
                if (a[0] == from) {
                    ways += paths(a[1], to);
                }
            }
            return ways;
        }

        int[] projective(int p) {
            int[] y = new int[n];
            for (int q = 0; q < n; q++) {
                y[q] = paths(p, q);
            }
            return y;
        }

        int[] injective(int p) {
            int[] y = new int[n];
            for (int q = 0; q < n; q++) {
                y[q] = paths(q, p);
            }
            return y;
        }

        /** Back takes each projective row to its injective one below 0; on the other way. */
        int[] shifted(int[] y, boolean back) {
            int[] z = new int[n];
            for (int j = 0; j < n; j++) {
                int c = back ? euler(y, unit(j)) : euler(unit(j), y);
                int[] other = back ? injective(j) : projective(j);
                for (int q = 0; q < n; q++) {
                    z[q] -= c * other[q];
                }
            }
            return z;
        }

        int turned(int p) {
            return x[p] - euler(x, unit(p)) - euler(unit(p), x);
        }

        int[] rightPlaces() {
            List<Integer> left = new ArrayList<>();
            for (int p = 0; p < n; p++) {
                left.add(p);
            }
            int[] place = new int[n];
            for (int i = 0; i < n; i++) {
                for (Integer p : left) {
                    boolean ready = true;
                    for (int[] a : arrows) {
                        ready &= a[0] != p || !left.contains(a[1]);
                    }
                    if (ready) {
                        place[p] = i;
                        left.remove(p);
                        break;
                    }
                }
            }
            return place;
        }

        boolean hangsTogether() {
            int[] colour = new int[n];
            for (int p = 0; p < n; p++) {
                colour[p] = p;
            }
            for (int[] a : arrows) {
                int was = colour[a[0]];
                int is = colour[a[1]];
                for (int p = 0; p < n; p++) {
                    if (colour[p] == was) {
                        colour[p] = is;
                    }
                }
            }
            return Arrays.stream(colour).distinct().count() == 1;
        }

        /** The form is above 0 everywhere just if all leading minors are. */
        boolean finite() {
            for (int size = 1; size <= n; size++) {
                long[][] m = new long[size][size];
                for (int i = 0; i < size; i++) {
                    m[i][i] = 2;
                }
                for (int[] a : arrows) {
                    if (a[0] < size && a[1] < size) {
                        m[a[0]][a[1]]--;
                        m[a[1]][a[0]]--;
                    }
                }
                if (determinant(m) <= 0) {
                    return false;
                }
            }
            return true;
        }

        static long determinant(long[][] m) {
            int size = m.length;
            if (size == 1) {
                return m[0][0];
            }
            long d = 0;
            for (int c = 0; c < size; c++) {
                long[][] minor = new long[size - 1][size - 1];
                for (int i = 1; i < size; i++) {
                    for (int j = 0, k = 0; j < size; j++) {
                        if (j != c) {
                            minor[i - 1][k++] = m[i][j];
                        }
                    }
                }
                d += (c % 2 == 0 ? 1 : -1) * m[0][c] * determinant(minor);
            }
            return d;
        }

        /** Of a finite quiver of six points at most no root is above 3 anywhere. */
        List<int[]> roots() {
            List<int[]> all = new ArrayList<>();
            for (int code = 1; code < 1 << (2 * n); code++) {
                int[] y = new int[n];
                for (int p = 0; p < n; p++) {
                    y[p] = code >> (2 * p) & 3;
                }
                if (euler(y, y) == 1) {
                    all.add(y);
                }
            }
            all.sort((y, z) -> {
                int d = Arrays.stream(y).sum() - Arrays.stream(z).sum();
                return d != 0 ? d : Arrays.compare(z, y);
            });
            return all;
        }
    }

    State now = new State();
    StringBuilder text = new StringBuilder();
    Deque<State> past = new ArrayDeque<>();
    State[] kept = new State[2];
    List<List<int[]>> shelves = new ArrayList<>(Arrays.asList(null, null, null));
    private List<int[]> rootsOfNow;
    private boolean rootsKnown;

    private void done() {
        past.addLast(now.copy());
        if (past.size() > 8) {
            past.removeFirst();
        }
    }

    private void other() {
        rootsKnown = false;
    }

    /** Null: the quiver is not finite. */
    private List<int[]> roots() {
        if (!rootsKnown) {
            rootsOfNow = now.finite() ? now.roots() : null;
            rootsKnown = true;
        }
        return rootsOfNow;
    }

    private boolean noPoint(int p) {
        return p < 0 || p >= now.n;
    }

    int write(int letter) {
        if (letter < 0 || letter > 255) {
            return OUTSIDE;
        }
        if (text.length() == 200) {
            return FULL;
        }
        text.append((char) letter);
        return text.length();
    }

    int erase() {
        int had = text.length();
        text.setLength(0);
        return had;
    }

    private static final Pattern TOKEN = Pattern.compile("[a-z]+|[0-9]+|[^ ]", Pattern.DOTALL);

    /** The fault, -1, and how many clauses; the state is changed as far as it was read. */
    private int[] read(State s) {
        List<String> tokens = new ArrayList<>();
        List<Integer> places = new ArrayList<>();
        Matcher m = TOKEN.matcher(text);
        while (m.find()) {
            tokens.add(m.group());
            places.add(m.start());
        }
        tokens.add("");
        places.add(text.length());
        int at = 0;
        for (int clauses = 1;; clauses++) {
            String word = tokens.get(at);
            int wants = word.equals("quiver") ? 1 : word.equals("arrow") ? 2 : word.equals("row") ? s.n : -1;
            if (wants < 0 || (wants == 2 && word.equals("arrow") && s.arrows.size() == 10)) {
                return new int[] {places.get(at), clauses};
            }
            at++;
            int[] v = new int[wants];
            for (int i = 0; i < wants; i++, at++) {
                if (!tokens.get(at).matches("[0-9]{1,2}") || !stands(s, word, v, i, Integer.parseInt(tokens.get(at)))) {
                    return new int[] {places.get(at), clauses};
                }
            }
            if (word.equals("quiver")) {
                s.n = v[0];
                s.arrows.clear();
                s.x = new int[s.n];
            } else if (word.equals("arrow")) {
                s.arrows.add(v);
            } else {
                s.x = v;
            }
            if (tokens.get(at).isEmpty()) {
                return new int[] {-1, clauses};
            }
            if (!tokens.get(at).equals(";") || clauses == 24) {
                return new int[] {places.get(at), clauses};
            }
            at++;
        }
    }

    private static boolean stands(State s, String word, int[] v, int i, int number) {
        v[i] = number;
        if (word.equals("quiver")) {
            return number >= 1 && number <= 6;
        }
        if (word.equals("row")) {
            return true;
        }
        return number < s.n && (i == 0 || (v[0] != v[1] && s.paths(v[1], v[0]) == 0));
    }

    int fault() {
        return read(now.copy())[0];
    }

    int quiver() {
        State s = now.copy();
        int[] end = read(s);
        if (end[0] >= 0) {
            return NOT;
        }
        now = s;
        text.setLength(0);
        past.clear();
        kept = new State[2];
        other();
        return end[1];
    }

    int arrow(int arrow, int what) {
        if (arrow < 0 || arrow >= now.arrows.size()) {
            return UNKNOWN;
        }
        return what != 0 && what != 1 ? OUTSIDE : now.arrows.get(arrow)[what];
    }

    int point(int point, int what) {
        if (noPoint(point)) {
            return UNKNOWN;
        }
        int comes = (int) now.arrows.stream().filter(a -> a[1] == point).count();
        int goes = (int) now.arrows.stream().filter(a -> a[0] == point).count();
        return switch (what) {
            case 0 -> now.x[point];
            case 1 -> goes == 0 ? 1 : 0;
            case 2 -> comes == 0 ? 1 : 0;
            case 3 -> now.rightPlaces()[point];
            case 4 -> comes;
            case 5 -> goes;
            default -> OUTSIDE;
        };
    }

    int paths(int from, int to) {
        return noPoint(from) || noPoint(to) ? UNKNOWN : now.paths(from, to);
    }

    int put(int from, int to) {
        if (noPoint(from) || noPoint(to) || from == to) {
            return UNKNOWN;
        }
        if (now.paths(to, from) > 0) {
            return NOT;
        }
        if (now.arrows.size() == 10) {
            return FULL;
        }
        done();
        now.arrows.add(new int[] {from, to});
        other();
        return now.arrows.size() - 1;
    }

    int cut(int arrow) {
        if (arrow < 0 || arrow >= now.arrows.size()) {
            return UNKNOWN;
        }
        done();
        now.arrows.remove(arrow);
        other();
        return now.arrows.size();
    }

    int turn(int point) {
        if (noPoint(point)) {
            return UNKNOWN;
        }
        int there = now.turned(point);
        if ((point(point, 1) == 0 && point(point, 2) == 0) || Math.abs(there) > 99) {
            return NOT;
        }
        done();
        now.x[point] = there;
        for (int[] a : now.arrows) {
            if (a[0] == point || a[1] == point) {
                int was = a[0];
                a[0] = a[1];
                a[1] = was;
            }
        }
        other();
        return there;
    }

    int set(int point, int v) {
        if (noPoint(point)) {
            return UNKNOWN;
        }
        if (v < -99 || v > 99) {
            return OUTSIDE;
        }
        done();
        int was = now.x[point];
        now.x[point] = v;
        return was;
    }

    private boolean within(int[] y) {
        return Arrays.stream(y).allMatch(v -> v >= -99 && v <= 99);
    }

    int shift(int way) {
        if (way != 0 && way != 1) {
            return OUTSIDE;
        }
        int[] y = now.shifted(now.x, way == 0);
        if (!within(y)) {
            return NOT;
        }
        done();
        now.x = y;
        return now.euler(y, y);
    }

    int take(int root) {
        if (roots() == null) {
            return NOT;
        }
        if (root < 0 || root >= roots().size()) {
            return UNKNOWN;
        }
        done();
        now.x = roots().get(root).clone();
        return Arrays.stream(now.x).sum();
    }

    int undo() {
        if (past.isEmpty()) {
            return NOT;
        }
        now = past.removeLast();
        other();
        return past.size();
    }

    int keep(int k) {
        if (k != 0 && k != 1) {
            return UNKNOWN;
        }
        kept[k] = now.copy();
        return now.arrows.size();
    }

    int back(int k) {
        if (k != 0 && k != 1) {
            return UNKNOWN;
        }
        if (kept[k] == null) {
            return NOT;
        }
        now = kept[k].copy();
        past.clear();
        other();
        return now.arrows.size();
    }

    int turned(int point) {
        return noPoint(point) ? UNKNOWN : now.turned(point);
    }

    int root(int root, int point) {
        if (roots() == null) {
            return NOT;
        }
        return root < 0 || root >= roots().size() || noPoint(point) ? UNKNOWN : roots().get(root)[point];
    }

    private int projectiveOf(int root) {
        for (int p = 0; p < now.n; p++) {
            if (Arrays.equals(now.projective(p), roots().get(root))) {
                return p;
            }
        }
        return NONE;
    }

    private int tau(int root) {
        return projectiveOf(root) != NONE ? NONE : number(now.shifted(roots().get(root), true));
    }

    private int number(int[] y) {
        for (int r = 0; r < roots().size(); r++) {
            if (Arrays.equals(roots().get(r), y)) {
                return r;
            }
        }
        return NONE;
    }

    private int steps(int root) {
        return tau(root) == NONE ? 0 : 1 + steps(tau(root));
    }

    private int foot(int root) {
        return tau(root) == NONE ? projectiveOf(root) : foot(tau(root));
    }

    private int injectiveOf(int root) {
        for (int p = 0; p < now.n; p++) {
            if (Arrays.equals(now.injective(p), roots().get(root))) {
                return p;
            }
        }
        return NONE;
    }

    int place(int root, int what) {
        if (roots() == null) {
            return NOT;
        }
        if (root < 0 || root >= roots().size()) {
            return UNKNOWN;
        }
        int sum = Arrays.stream(roots().get(root)).sum();
        return switch (what) {
            case 0 -> sum;
            case 1 -> tau(root);
            case 2 -> steps(root);
            case 3 -> foot(root);
            case 4 -> tau(root) == NONE ? NONE : sum + place(tau(root), 0);
            case 5 -> injectiveOf(root);
            default -> OUTSIDE;
        };
    }

    int between(int one, int other, int what) {
        if (roots() == null) {
            return NOT;
        }
        int size = roots().size();
        if (one < 0 || one >= size || other < 0 || other >= size) {
            return UNKNOWN;
        }
        int e = now.euler(roots().get(one), roots().get(other));
        return what == 0 ? Math.max(e, 0) : what == 1 ? Math.max(-e, 0) : what == 2 ? e : OUTSIDE;
    }

    int find() {
        return roots() == null ? NOT : number(now.x);
    }

    int sums() {
        if (roots() == null) {
            return NOT;
        }
        if (Arrays.stream(now.x).anyMatch(v -> v < 0)) {
            return 0;
        }
        // a smaller row has no more ways, so a cut row tells enough if it has the most already
        for (int most = 2; most < 99; most++) {
            int bound = most;
            int[] y = Arrays.stream(now.x).map(v -> Math.min(v, bound)).toArray();
            long cells = 1;
            for (int v : y) {
                cells *= v + 1;
            }
            if (cells > 300000) {
                return UNTOLD;
            }
            int ways = table(y, (int) cells);
            if (ways == 9999 || Arrays.equals(y, now.x)) {
                return ways;
            }
        }
        return table(now.x, Arrays.stream(now.x).reduce(1, (a, v) -> a * (v + 1)));
    }

    /** Ways to all rows up to y at once, root by root. */
    private int table(int[] y, int cells) {
        int[] ways = new int[cells];
        ways[0] = 1;
        int[] z = new int[now.n];
        for (int[] r : roots()) {
            int step = 0;
            for (int p = 0, f = 1; p < now.n; f *= y[p] + 1, p++) {
                step += r[p] * f;
            }
            Arrays.fill(z, 0);
            for (int cell = 0; cell < cells; cell++) {
                boolean fits = true;
                for (int p = 0; p < now.n; p++) {
                    fits &= z[p] >= r[p];
                }
                if (fits) {
                    ways[cell] = Math.min(9999, ways[cell] + ways[cell - step]);
                }
                for (int p = 0; p < now.n && ++z[p] > y[p]; p++) {
                    z[p] = 0;
                }
            }
        }
        return ways[cells - 1];
    }

    private boolean noShelf(int s) {
        return s < 0 || s > 2;
    }

    int shelf(int s) {
        if (noShelf(s)) {
            return UNKNOWN;
        }
        shelves.set(s, new ArrayList<>());
        return 0;
    }

    int lay(int s) {
        if (noShelf(s)) {
            return UNKNOWN;
        }
        if (shelves.get(s) == null) {
            return NULL;
        }
        if (shelves.get(s).size() == 4) {
            return ROOM;
        }
        shelves.get(s).add(now.x.clone());
        return shelves.get(s).size();
    }

    private int lastOf(int s) {
        if (noShelf(s)) {
            return UNKNOWN;
        }
        List<int[]> rows = shelves.get(s);
        return rows == null ? NULL : rows.isEmpty() ? EMPTY : rows.get(rows.size() - 1).length != now.n ? SIZE : 0;
    }

    int draw(int s) {
        if (lastOf(s) != 0) {
            return lastOf(s);
        }
        List<int[]> rows = shelves.get(s);
        now.x = rows.remove(rows.size() - 1);
        return rows.size();
    }

    int add(int s) {
        if (lastOf(s) != 0) {
            return lastOf(s);
        }
        List<int[]> rows = shelves.get(s);
        int[] y = now.x.clone();
        for (int p = 0; p < now.n; p++) {
            y[p] += rows.get(rows.size() - 1)[p];
        }
        if (!within(y)) {
            return NOT;
        }
        done();
        now.x = y;
        return y[0];
    }

    int euler(int s, int what) {
        if (noShelf(s)) {
            return UNKNOWN;
        }
        if (what < 0 || what > 2) {
            return OUTSIDE;
        }
        if (lastOf(s) != 0) {
            return lastOf(s);
        }
        int[] y = shelves.get(s).get(shelves.get(s).size() - 1);
        return (what != 1 ? now.euler(now.x, y) : 0) + (what != 0 ? now.euler(y, now.x) : 0);
    }

    int drop(int s) {
        if (noShelf(s)) {
            return UNKNOWN;
        }
        if (shelves.get(s) == null) {
            return NULL;
        }
        int had = shelves.get(s).size();
        shelves.set(s, null);
        return had;
    }

    int count(int what) {
        int all = 0;
        switch (what) {
            case 0: return now.n;
            case 1: return now.arrows.size();
            case 2: return now.euler(now.x, now.x);
            case 3: return now.euler(now.x, now.x) - 1;
            case 4: return roots() == null ? NONE : roots().size();
            case 5:
                if (roots() == null) {
                    return NONE;
                }
                for (int r = 0; r < roots().size(); r++) {
                    all = Math.max(all, steps(r));
                }
                return all;
            case 6:
            case 7:
                for (int p = 0; p < now.n; p++) {
                    all += point(p, what - 5) << p;
                }
                return all;
            case 8:
                for (int p = 0; p < now.n; p++) {
                    all += Arrays.stream(now.projective(p)).sum();
                }
                return all;
            case 9: return now.hangsTogether() ? 1 : 0;
            case 10:
                for (List<int[]> rows : shelves) {
                    all += rows == null ? 0 : rows.size();
                }
                return all;
            case 11: return past.size();
            case 12: return text.length();
            default: return OUTSIDE;
        }
    }
}

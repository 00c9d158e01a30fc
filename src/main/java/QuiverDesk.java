public final class QuiverDesk {
    public static final int NONE = -1000000, UNKNOWN = -1000001, OUTSIDE = -1000002, NOT = -1000003, FULL = -1000004, NULL = -1000011, EMPTY = -1000012, ROOM = -1000013, SIZE = -1000014;

    private static final int FIRST_POINTS = 3;
    private static final int MOST_POINTS = 6;
    private static final int MOST_ARROWS = 10;
    private static final int BOUND = 99;
    private static final int MOST_ROOTS = 36;
    private static final int HIGHEST_IN_ROOT = 9;
    private static final int MOST_SUMS = 9999;
    private static final int MOST_LETTERS = 200;
    private static final int HIGHEST_LETTER = 255;
    private static final int MOST_CLAUSES = 24;
    private static final int MOST_UNDONE = 8;
    private static final int KEEPS = 2;
    private static final int SHELVES = 3;
    private static final int MOST_ROWS = 4;
    private static final int NO_FAULT = -1;
    private static final int NO_POINT = -1;
    private static final int FINE = 0;

    private final Quiver now = new Quiver();
    private final Quiver draft = new Quiver();
    private final Past past = new Past();
    private final Quiver[] kept = new Quiver[KEEPS];
    private final boolean[] isKept = new boolean[KEEPS];
    private final Text text = new Text();
    private final Ways ways = new Ways();
    private final Roots roots = new Roots();
    private final Partition partition = new Partition();
    private final Shelf[] shelves = new Shelf[SHELVES];
    private final int[] trial = new int[MOST_POINTS];
    /** Ways and roots are dear to find, so they are found again only behind a change of the arrows. */
    private boolean waysAreOld = true;
    private boolean rootsAreOld = true;

    public QuiverDesk() {
        for (int k = 0; k < KEEPS; k++) {
            kept[k] = new Quiver();
        }
        for (int s = 0; s < SHELVES; s++) {
            shelves[s] = new Shelf();
        }
    }

    // ---- what is told

    public int write(int letter) {
        if (letter < 0 || letter > HIGHEST_LETTER) {
            return OUTSIDE;
        }
        if (text.length >= MOST_LETTERS) {
            return FULL;
        }
        text.letters[text.length] = letter;
        text.length++;
        return text.length;
    }

    public int erase() {
        int had = text.length;
        text.length = 0;
        return had;
    }

    public int fault() {
        draft.become(now);
        return text.readInto(draft);
    }

    public int quiver() {
        draft.become(now);
        if (text.readInto(draft) != NO_FAULT) {
            return NOT;
        }
        now.become(draft);
        text.length = 0;
        past.forget();
        for (int k = 0; k < KEEPS; k++) {
            isKept[k] = false;
        }
        arrowsChanged();
        return text.clauses;
    }

    public int arrow(int arrow, int what) {
        if (!now.hasArrow(arrow)) {
            return UNKNOWN;
        }
        if (what < 0 || what > 1) {
            return OUTSIDE;
        }
        return what == 0 ? now.from[arrow] : now.to[arrow];
    }

    public int point(int point, int what) {
        if (!now.hasPoint(point)) {
            return UNKNOWN;
        }
        switch (what) {
            case 0:
                return now.row[point];
            case 1:
                return now.isSink(point) ? 1 : 0;
            case 2:
                return now.isSource(point) ? 1 : 0;
            case 3:
                findWays();
                return ways.place[point];
            case 4:
                return now.coming(point);
            case 5:
                return now.going(point);
            default:
                return OUTSIDE;
        }
    }

    public int paths(int from, int to) {
        if (!now.hasPoint(from) || !now.hasPoint(to)) {
            return UNKNOWN;
        }
        findWays();
        return ways.paths[from][to];
    }

    // ---- what is done

    public int put(int from, int to) {
        if (!now.hasPoint(from) || !now.hasPoint(to) || from == to) {
            return UNKNOWN;
        }
        if (now.wouldLeadRound(from, to)) {
            return NOT;
        }
        if (now.arrows >= MOST_ARROWS) {
            return FULL;
        }
        past.remember(now);
        now.join(from, to);
        arrowsChanged();
        return now.arrows - 1;
    }

    public int cut(int arrow) {
        if (!now.hasArrow(arrow)) {
            return UNKNOWN;
        }
        past.remember(now);
        now.sever(arrow);
        arrowsChanged();
        return now.arrows;
    }

    public int turn(int point) {
        if (!now.hasPoint(point)) {
            return UNKNOWN;
        }
        if (!now.isSink(point) && !now.isSource(point)) {
            return NOT;
        }
        int there = now.turnedAbout(now.row, point);
        if (!isWithinBounds(there)) {
            return NOT;
        }
        past.remember(now);
        now.row[point] = there;
        now.swapArrowsAt(point);
        arrowsChanged();
        return there;
    }

    public int set(int point, int v) {
        if (!now.hasPoint(point)) {
            return UNKNOWN;
        }
        if (!isWithinBounds(v)) {
            return OUTSIDE;
        }
        past.remember(now);
        int was = now.row[point];
        now.row[point] = v;
        return was;
    }

    public int shift(int way) {
        if (way < 0 || way > 1) {
            return OUTSIDE;
        }
        findWays();
        copyRow(now.row, trial);
        if (way == 0) {
            ways.shiftBack(now, trial);
        } else {
            ways.shiftOn(now, trial);
        }
        if (!isTrialWithinBounds()) {
            return NOT;
        }
        past.remember(now);
        copyRow(trial, now.row);
        return now.tits();
    }

    public int take(int root) {
        findRoots();
        if (!roots.finite) {
            return NOT;
        }
        if (!roots.has(root)) {
            return UNKNOWN;
        }
        past.remember(now);
        copyRow(roots.rows[root], now.row);
        return roots.total[root];
    }

    public int undo() {
        if (past.size == 0) {
            return NOT;
        }
        past.recall(now);
        arrowsChanged();
        return past.size;
    }

    public int keep(int k) {
        if (!isKeep(k)) {
            return UNKNOWN;
        }
        kept[k].become(now);
        isKept[k] = true;
        return now.arrows;
    }

    public int back(int k) {
        if (!isKeep(k)) {
            return UNKNOWN;
        }
        if (!isKept[k]) {
            return NOT;
        }
        now.become(kept[k]);
        past.forget();
        arrowsChanged();
        return now.arrows;
    }

    // ---- what is found

    public int turned(int point) {
        if (!now.hasPoint(point)) {
            return UNKNOWN;
        }
        return now.turnedAbout(now.row, point);
    }

    public int root(int root, int point) {
        findRoots();
        if (!roots.finite) {
            return NOT;
        }
        if (!roots.has(root) || !now.hasPoint(point)) {
            return UNKNOWN;
        }
        return roots.rows[root][point];
    }

    public int place(int root, int what) {
        findRoots();
        if (!roots.finite) {
            return NOT;
        }
        if (!roots.has(root)) {
            return UNKNOWN;
        }
        switch (what) {
            case 0:
                return roots.total[root];
            case 1:
                return roots.tau[root];
            case 2:
                return roots.steps[root];
            case 3:
                return roots.foot[root];
            case 4:
                return roots.meshTotal(root);
            case 5:
                return roots.injectiveOf[root] == NO_POINT ? NONE : roots.injectiveOf[root];
            default:
                return OUTSIDE;
        }
    }

    public int between(int one, int other, int what) {
        findRoots();
        if (!roots.finite) {
            return NOT;
        }
        if (!roots.has(one) || !roots.has(other)) {
            return UNKNOWN;
        }
        if (what < 0 || what > 2) {
            return OUTSIDE;
        }
        int form = now.eulerOf(roots.rows[one], roots.rows[other]);
        if (what == 0) {
            return Math.max(form, 0);
        }
        return what == 1 ? Math.max(-form, 0) : form;
    }

    public int find() {
        findRoots();
        if (!roots.finite) {
            return NOT;
        }
        return roots.numberOf(now.row, now.points);
    }

    public int sums() {
        findRoots();
        if (!roots.finite) {
            return NOT;
        }
        return partition.ways(now, roots);
    }

    // ---- shelves

    public int shelf(int shelf) {
        if (!isShelf(shelf)) {
            return UNKNOWN;
        }
        shelves[shelf].isThere = true;
        shelves[shelf].size = 0;
        return 0;
    }

    public int lay(int shelf) {
        if (!isShelf(shelf)) {
            return UNKNOWN;
        }
        Shelf s = shelves[shelf];
        if (!s.isThere) {
            return NULL;
        }
        if (s.size >= MOST_ROWS) {
            return ROOM;
        }
        copyRow(now.row, s.rows[s.size]);
        s.points[s.size] = now.points;
        s.size++;
        return s.size;
    }

    public int draw(int shelf) {
        int refusal = refusalOfLastRow(shelf);
        if (refusal != FINE) {
            return refusal;
        }
        Shelf s = shelves[shelf];
        copyRow(s.lastRow(), now.row);
        s.size--;
        return s.size;
    }

    public int add(int shelf) {
        int refusal = refusalOfLastRow(shelf);
        if (refusal != FINE) {
            return refusal;
        }
        int[] more = shelves[shelf].lastRow();
        for (int p = 0; p < MOST_POINTS; p++) {
            trial[p] = now.row[p] + more[p];
        }
        if (!isTrialWithinBounds()) {
            return NOT;
        }
        past.remember(now);
        copyRow(trial, now.row);
        return now.row[0];
    }

    public int euler(int shelf, int what) {
        if (!isShelf(shelf)) {
            return UNKNOWN;
        }
        if (what < 0 || what > 2) {
            return OUTSIDE;
        }
        int refusal = refusalOfLastRow(shelf);
        if (refusal != FINE) {
            return refusal;
        }
        int[] other = shelves[shelf].lastRow();
        if (what == 0) {
            return now.eulerOf(now.row, other);
        }
        int turnedRound = now.eulerOf(other, now.row);
        return what == 1 ? turnedRound : turnedRound + now.eulerOf(now.row, other);
    }

    public int drop(int shelf) {
        if (!isShelf(shelf)) {
            return UNKNOWN;
        }
        Shelf s = shelves[shelf];
        if (!s.isThere) {
            return NULL;
        }
        int had = s.size;
        s.isThere = false;
        s.size = 0;
        return had;
    }

    public int count(int what) {
        switch (what) {
            case 0:
                return now.points;
            case 1:
                return now.arrows;
            case 2:
                return now.tits();
            case 3:
                return now.tits() - 1;
            case 4:
                findRoots();
                return roots.finite ? roots.size : NONE;
            case 5:
                findRoots();
                return roots.finite ? roots.deepest() : NONE;
            case 6:
                return now.sinks();
            case 7:
                return now.sources();
            case 8:
                findWays();
                return ways.allPaths(now.points);
            case 9:
                return now.hangsTogether() ? 1 : 0;
            case 10:
                return rowsOfAllShelves();
            case 11:
                return past.size;
            case 12:
                return text.length;
            default:
                return OUTSIDE;
        }
    }

    // ---- what the calls share

    private void arrowsChanged() {
        waysAreOld = true;
        rootsAreOld = true;
    }

    private void findWays() {
        if (waysAreOld) {
            ways.learn(now);
            waysAreOld = false;
        }
    }

    private void findRoots() {
        if (rootsAreOld) {
            findWays();
            roots.learn(now, ways);
            rootsAreOld = false;
        }
    }

    private boolean isTrialWithinBounds() {
        for (int p = 0; p < now.points; p++) {
            if (!isWithinBounds(trial[p])) {
                return false;
            }
        }
        return true;
    }

    private int refusalOfLastRow(int shelf) {
        if (!isShelf(shelf)) {
            return UNKNOWN;
        }
        Shelf s = shelves[shelf];
        if (!s.isThere) {
            return NULL;
        }
        if (s.size == 0) {
            return EMPTY;
        }
        return s.points[s.size - 1] == now.points ? FINE : SIZE;
    }

    private int rowsOfAllShelves() {
        int all = 0;
        for (int s = 0; s < SHELVES; s++) {
            all += shelves[s].size;
        }
        return all;
    }

    private static boolean isWithinBounds(int v) {
        return v >= -BOUND && v <= BOUND;
    }

    private static boolean isKeep(int k) {
        return k >= 0 && k < KEEPS;
    }

    private static boolean isShelf(int shelf) {
        return shelf >= 0 && shelf < SHELVES;
    }

    /** All six places are copied: those beyond the last point are 0 in every row. */
    private static void copyRow(int[] source, int[] target) {
        System.arraycopy(source, 0, target, 0, MOST_POINTS);
    }

    private static int totalOf(int[] y, int points) {
        int total = 0;
        for (int p = 0; p < points; p++) {
            total += y[p];
        }
        return total;
    }

    private static boolean isSameRow(int[] y, int[] z, int points) {
        for (int p = 0; p < points; p++) {
            if (y[p] != z[p]) {
                return false;
            }
        }
        return true;
    }

    /** Points, arrows between them that lead nowhere round, and the row in hand. */
    private static final class Quiver {
        int points = FIRST_POINTS;
        int arrows = 0;
        final int[] from = new int[MOST_ARROWS];
        final int[] to = new int[MOST_ARROWS];
        final int[] row = new int[MOST_POINTS];

        void begin(int howMany) {
            points = howMany;
            arrows = 0;
            for (int p = 0; p < MOST_POINTS; p++) {
                row[p] = 0;
            }
        }

        void become(Quiver other) {
            points = other.points;
            arrows = other.arrows;
            System.arraycopy(other.from, 0, from, 0, MOST_ARROWS);
            System.arraycopy(other.to, 0, to, 0, MOST_ARROWS);
            copyRow(other.row, row);
        }

        boolean hasPoint(int p) {
            return p >= 0 && p < points;
        }

        boolean hasArrow(int a) {
            return a >= 0 && a < arrows;
        }

        /** Callers have looked that there is room. */
        void join(int start, int end) {
            from[arrows] = start;
            to[arrows] = end;
            arrows++;
        }

        void sever(int arrow) {
            for (int a = arrow; a < arrows - 1; a++) {
                from[a] = from[a + 1];
                to[a] = to[a + 1];
            }
            arrows--;
        }

        void swapArrowsAt(int p) {
            for (int a = 0; a < arrows; a++) {
                if (from[a] == p || to[a] == p) {
                    int start = from[a];
                    from[a] = to[a];
                    to[a] = start;
                }
            }
        }

        int coming(int p) {
            int some = 0;
            for (int a = 0; a < arrows; a++) {
                if (to[a] == p) {
                    some++;
                }
            }
            return some;
        }

        int going(int p) {
            int some = 0;
            for (int a = 0; a < arrows; a++) {
                if (from[a] == p) {
                    some++;
                }
            }
            return some;
        }

        boolean isSink(int p) {
            return going(p) == 0;
        }

        boolean isSource(int p) {
            return coming(p) == 0;
        }

        int sinks() {
            int bits = 0;
            for (int p = 0; p < points; p++) {
                if (isSink(p)) {
                    bits |= 1 << p;
                }
            }
            return bits;
        }

        int sources() {
            int bits = 0;
            for (int p = 0; p < points; p++) {
                if (isSource(p)) {
                    bits |= 1 << p;
                }
            }
            return bits;
        }

        boolean wouldLeadRound(int start, int end) {
            return (reached(end, false) & (1 << start)) != 0;
        }

        boolean hangsTogether() {
            return reached(0, true) == (1 << points) - 1;
        }

        /** As many rounds as there are points are enough: each but the last reaches a new one. */
        int reached(int start, boolean eitherWay) {
            int bits = 1 << start;
            for (int round = 0; round < points; round++) {
                for (int a = 0; a < arrows; a++) {
                    int one = 1 << from[a];
                    int other = 1 << to[a];
                    if ((bits & one) != 0) {
                        bits |= other;
                    }
                    if (eitherWay && (bits & other) != 0) {
                        bits |= one;
                    }
                }
            }
            return bits;
        }

        int eulerOf(int[] y, int[] z) {
            int form = 0;
            for (int p = 0; p < points; p++) {
                form += y[p] * z[p];
            }
            for (int a = 0; a < arrows; a++) {
                form -= y[from[a]] * z[to[a]];
            }
            return form;
        }

        int tits() {
            return eulerOf(row, row);
        }

        /** y at p less BOTH of y and the row that is 1 at p alone, which leaves the neighbours' sum less y there. */
        int turnedAbout(int[] y, int p) {
            int there = -y[p];
            for (int a = 0; a < arrows; a++) {
                if (from[a] == p) {
                    there += y[to[a]];
                }
                if (to[a] == p) {
                    there += y[from[a]];
                }
            }
            return there;
        }
    }

    /** What can be undone: a ring, so that the ninth takes the place of the first. */
    private static final class Past {
        final Quiver[] slots = new Quiver[MOST_UNDONE];
        int next = 0;
        int size = 0;

        Past() {
            for (int i = 0; i < MOST_UNDONE; i++) {
                slots[i] = new Quiver();
            }
        }

        void forget() {
            size = 0;
        }

        void remember(Quiver quiver) {
            slots[next].become(quiver);
            next = next == MOST_UNDONE - 1 ? 0 : next + 1;
            size = Math.min(size + 1, MOST_UNDONE);
        }

        /** Callers have looked that there is one. */
        void recall(Quiver quiver) {
            next = next == 0 ? MOST_UNDONE - 1 : next - 1;
            size--;
            quiver.become(slots[next]);
        }
    }

    private static final class Shelf {
        boolean isThere = false;
        int size = 0;
        final int[][] rows = new int[MOST_ROWS][MOST_POINTS];
        final int[] points = new int[MOST_ROWS];

        /** Callers have looked that there is one. */
        int[] lastRow() {
            return rows[size - 1];
        }
    }

    /** Letters, and the reading of them token by token. */
    private static final class Text {
        static final int END = 0;
        static final int WORD = 1;
        static final int NUMBER = 2;
        static final int SIGN = 3;

        final int[] letters = new int[MOST_LETTERS];
        int length = 0;
        int clauses = 0;
        int kind = END;
        int start = 0;
        int end = 0;

        /** The place of the fault, or NO_FAULT; the draft is of use only if there is none. */
        int readInto(Quiver draft) {
            clauses = 0;
            end = 0;
            for (int i = 0; i < MOST_CLAUSES; i++) {
                nextToken();
                if (!readClause(draft)) {
                    return start;
                }
                clauses++;
                nextToken();
                if (kind == END) {
                    return NO_FAULT;
                }
                if (kind != SIGN || letters[start] != ';') {
                    return start;
                }
            }
            return start;
        }

        boolean readClause(Quiver draft) {
            if (isWord("quiver")) {
                return readPoints(draft);
            }
            if (isWord("arrow")) {
                return readArrow(draft);
            }
            return isWord("row") && readRow(draft);
        }

        boolean readPoints(Quiver draft) {
            nextToken();
            if (!isNumber(1, MOST_POINTS)) {
                return false;
            }
            draft.begin(value());
            return true;
        }

        /** An eleventh arrow is refused ahead of its numbers, while its word is still the token. */
        boolean readArrow(Quiver draft) {
            if (draft.arrows >= MOST_ARROWS) {
                return false;
            }
            nextToken();
            if (!isNumber(0, draft.points - 1)) {
                return false;
            }
            int from = value();
            nextToken();
            if (!isNumber(0, draft.points - 1)) {
                return false;
            }
            int to = value();
            // a point is reached from itself, so this refuses V like U too
            if (draft.wouldLeadRound(from, to)) {
                return false;
            }
            draft.join(from, to);
            return true;
        }

        boolean readRow(Quiver draft) {
            for (int p = 0; p < draft.points; p++) {
                nextToken();
                if (!isNumber(0, BOUND)) {
                    return false;
                }
                draft.row[p] = value();
            }
            return true;
        }

        void nextToken() {
            start = end;
            while (start < length && letters[start] == ' ') {
                start++;
            }
            end = start;
            if (start >= length) {
                kind = END;
                return;
            }
            kind = kindOf(letters[start]);
            end++;
            while (kind != SIGN && end < length && kindOf(letters[end]) == kind) {
                end++;
            }
        }

        static int kindOf(int letter) {
            if (letter >= 'a' && letter <= 'z') {
                return WORD;
            }
            return letter >= '0' && letter <= '9' ? NUMBER : SIGN;
        }

        boolean isWord(String word) {
            if (kind != WORD || end - start != word.length()) {
                return false;
            }
            for (int i = 0; i < word.length(); i++) {
                if (letters[start + i] != word.charAt(i)) {
                    return false;
                }
            }
            return true;
        }

        boolean isNumber(int least, int most) {
            if (kind != NUMBER || end - start > 2) {
                return false;
            }
            int v = value();
            return v >= least && v <= most;
        }

        /** Of two digits at most, which isNumber has looked at. */
        int value() {
            int v = 0;
            for (int i = start; i < end; i++) {
                v = v * 10 + (letters[i] - '0');
            }
            return v;
        }
    }

    /** Right order and paths, which a quiver's arrows settle. */
    private static final class Ways {
        final int[] order = new int[MOST_POINTS];
        final int[] place = new int[MOST_POINTS];
        final int[][] paths = new int[MOST_POINTS][MOST_POINTS];

        void learn(Quiver quiver) {
            int left = (1 << quiver.points) - 1;
            for (int i = 0; i < quiver.points; i++) {
                int p = leastReady(quiver, left);
                order[i] = p;
                place[p] = i;
                left &= ~(1 << p);
                findPathsFrom(quiver, p);
            }
        }

        static int leastReady(Quiver quiver, int left) {
            for (int p = 0; p < quiver.points; p++) {
                if ((left & (1 << p)) != 0 && !goesInto(quiver, p, left)) {
                    return p;
                }
            }
            // never so, since no way leads round
            return 0;
        }

        static boolean goesInto(Quiver quiver, int p, int left) {
            for (int a = 0; a < quiver.arrows; a++) {
                if (quiver.from[a] == p && (left & (1 << quiver.to[a])) != 0) {
                    return true;
                }
            }
            return false;
        }

        /** Right order has the paths from every point to which an arrow of p comes found ahead of p's. */
        void findPathsFrom(Quiver quiver, int p) {
            for (int q = 0; q < MOST_POINTS; q++) {
                paths[p][q] = q == p ? 1 : 0;
            }
            for (int a = 0; a < quiver.arrows; a++) {
                if (quiver.from[a] == p) {
                    for (int q = 0; q < quiver.points; q++) {
                        paths[p][q] += paths[quiver.to[a]][q];
                    }
                }
            }
        }

        int allPaths(int points) {
            int all = 0;
            for (int p = 0; p < points; p++) {
                all += totalOf(paths[p], points);
            }
            return all;
        }

        /** On the way a number may grow elevenfold at each of six points: from 99 an int still holds it. */
        void shiftBack(Quiver quiver, int[] y) {
            for (int i = 0; i < quiver.points; i++) {
                y[order[i]] = quiver.turnedAbout(y, order[i]);
            }
        }

        void shiftOn(Quiver quiver, int[] y) {
            for (int i = quiver.points - 1; i >= 0; i--) {
                y[order[i]] = quiver.turnedAbout(y, order[i]);
            }
        }

        int pointOfProjective(int[] y, int points) {
            for (int p = 0; p < points; p++) {
                if (isSameRow(paths[p], y, points)) {
                    return p;
                }
            }
            return NO_POINT;
        }

        int pointOfInjective(int[] y, int points) {
            for (int p = 0; p < points; p++) {
                if (isInjective(p, y, points)) {
                    return p;
                }
            }
            return NO_POINT;
        }

        boolean isInjective(int p, int[] y, int points) {
            for (int q = 0; q < points; q++) {
                if (paths[q][p] != y[q]) {
                    return false;
                }
            }
            return true;
        }
    }

    /** All roots of a finite quiver by their numbers, each with its place in the network. */
    private static final class Roots {
        boolean finite = false;
        int size = 0;
        final int[][] rows = new int[MOST_ROOTS][MOST_POINTS];
        final int[] total = new int[MOST_ROOTS];
        final int[] tau = new int[MOST_ROOTS];
        final int[] steps = new int[MOST_ROOTS];
        final int[] foot = new int[MOST_ROOTS];
        final int[] injectiveOf = new int[MOST_ROOTS];
        /** As they come, not yet by their numbers. */
        private final int[][] found = new int[MOST_ROOTS][MOST_POINTS];
        private final int[] foundCodes = new int[MOST_ROOTS];
        private final int[] foundTotals = new int[MOST_ROOTS];
        private final int[] projectiveOf = new int[MOST_ROOTS];
        private final int[] trial = new int[MOST_POINTS];

        void learn(Quiver quiver, Ways ways) {
            finite = search(quiver);
            if (!finite) {
                return;
            }
            giveNumbers();
            for (int r = 0; r < size; r++) {
                findNeighbours(quiver, ways, r);
            }
            for (int r = 0; r < size; r++) {
                goBack(r);
            }
        }

        boolean has(int root) {
            return root >= 0 && root < size;
        }

        private boolean search(Quiver quiver) {
            beginWithPoints(quiver.points);
            for (int r = 0; r < size && r < MOST_ROOTS; r++) {
                for (int p = 0; p < quiver.points; p++) {
                    int there = quiver.turnedAbout(found[r], p);
                    if (there > HIGHEST_IN_ROOT) {
                        return false;
                    }
                    if (there >= 0 && !takeIn(r, p, there)) {
                        return false;
                    }
                }
            }
            return true;
        }

        private void beginWithPoints(int points) {
            size = points;
            for (int r = 0; r < points; r++) {
                for (int p = 0; p < MOST_POINTS; p++) {
                    found[r][p] = p == r ? 1 : 0;
                }
                foundCodes[r] = codeOf(r, 1);
                foundTotals[r] = 1;
            }
        }

        /** Takes in the root that comes of r, unless it is known; false if there is no room for it. */
        private boolean takeIn(int r, int point, int there) {
            int more = there - found[r][point];
            int code = foundCodes[r] + codeOf(point, more);
            if (isFound(code)) {
                return true;
            }
            if (size >= MOST_ROOTS) {
                return false;
            }
            copyRow(found[r], found[size]);
            found[size][point] = there;
            foundCodes[size] = code;
            foundTotals[size] = foundTotals[r] + more;
            size++;
            return true;
        }

        /** Four bits a point hold 0 to 9, the first point highest: so codes are ordered as their rows are. */
        private static int codeOf(int point, int v) {
            return v * (1 << (4 * (MOST_POINTS - 1 - point)));
        }

        private boolean isFound(int code) {
            for (int r = 0; r < size; r++) {
                if (foundCodes[r] == code) {
                    return true;
                }
            }
            return false;
        }

        /** No two are the same, so how many stand ahead of a root is its number. */
        private void giveNumbers() {
            for (int r = 0; r < size; r++) {
                int ahead = 0;
                for (int s = 0; s < size; s++) {
                    if (isAhead(s, r)) {
                        ahead++;
                    }
                }
                copyRow(found[r], rows[ahead]);
                total[ahead] = foundTotals[r];
            }
        }

        private boolean isAhead(int s, int r) {
            if (foundTotals[s] != foundTotals[r]) {
                return foundTotals[s] < foundTotals[r];
            }
            return foundCodes[s] > foundCodes[r];
        }

        private void findNeighbours(Quiver quiver, Ways ways, int r) {
            projectiveOf[r] = ways.pointOfProjective(rows[r], quiver.points);
            injectiveOf[r] = ways.pointOfInjective(rows[r], quiver.points);
            tau[r] = NONE;
            if (projectiveOf[r] == NO_POINT) {
                copyRow(rows[r], trial);
                ways.shiftBack(quiver, trial);
                tau[r] = numberOf(trial, quiver.points);
            }
        }

        private void goBack(int r) {
            int at = r;
            int taken = 0;
            while (taken < size && tau[at] >= 0) {
                at = tau[at];
                taken++;
            }
            steps[r] = taken;
            foot[r] = projectiveOf[at];
        }

        int numberOf(int[] y, int points) {
            for (int r = 0; r < size; r++) {
                if (isSameRow(rows[r], y, points)) {
                    return r;
                }
            }
            return NONE;
        }

        int meshTotal(int root) {
            return tau[root] < 0 ? NONE : total[root] + total[tau[root]];
        }

        int deepest() {
            int most = 0;
            for (int r = 0; r < size; r++) {
                most = Math.max(most, steps[r]);
            }
            return most;
        }
    }

    /**
     * In how many ways a row is a sum of roots. What is left of the row beside the roots of more than
     * one point is filled by those of one point in just one way: so only the former are counted through.
     */
    private static final class Partition {
        private final int[] used = new int[MOST_ROOTS];
        private final int[] times = new int[MOST_ROOTS];
        private final int[] left = new int[MOST_POINTS];
        private int usedSize = 0;
        private int points = 0;

        int ways(Quiver quiver, Roots roots) {
            points = quiver.points;
            copyRow(quiver.row, left);
            for (int p = 0; p < points; p++) {
                if (left[p] < 0) {
                    return 0;
                }
            }
            chooseRoots(roots);
            if (usedSize == 0) {
                return 1;
            }
            int all = 0;
            for (int step = 0; step < MOST_SUMS && all < MOST_SUMS; step++) {
                // the first root may stand there from not once to as often as it fits
                all += 1 + howOftenFits(roots.rows[used[0]]);
                if (!goOn(roots)) {
                    break;
                }
            }
            return Math.min(all, MOST_SUMS);
        }

        /**
         * Those that do not fit at first never will. The one that fits most often comes first, since
         * all its turns are counted in one step.
         */
        private void chooseRoots(Roots roots) {
            usedSize = 0;
            for (int r = 0; r < roots.size; r++) {
                if (roots.total[r] > 1 && fits(roots.rows[r])) {
                    putAmongUsed(r, howOftenFits(roots.rows[r]));
                }
            }
            for (int wheel = 0; wheel < usedSize; wheel++) {
                times[wheel] = 0;
            }
        }

        /** Till the wheels turn, times holds how often each root fits. */
        private void putAmongUsed(int root, int often) {
            int at = usedSize;
            while (at > 0 && times[at - 1] < often) {
                times[at] = times[at - 1];
                used[at] = used[at - 1];
                at--;
            }
            times[at] = often;
            used[at] = root;
            usedSize++;
        }

        /** Like a counter with wheels: the first wheel that can go on does, those ahead of it start anew. */
        private boolean goOn(Roots roots) {
            for (int wheel = 1; wheel < usedSize; wheel++) {
                int[] row = roots.rows[used[wheel]];
                if (fits(row)) {
                    takeAway(row, 1);
                    times[wheel]++;
                    return true;
                }
                if (times[wheel] > 0) {
                    takeAway(row, -times[wheel]);
                    times[wheel] = 0;
                }
            }
            return false;
        }

        private void takeAway(int[] row, int often) {
            for (int p = 0; p < points; p++) {
                left[p] -= often * row[p];
            }
        }

        private boolean fits(int[] row) {
            for (int p = 0; p < points; p++) {
                if (row[p] > left[p]) {
                    return false;
                }
            }
            return true;
        }

        private int howOftenFits(int[] row) {
            int often = BOUND;
            for (int p = 0; p < points; p++) {
                if (row[p] > 0) {
                    often = Math.min(often, left[p] / row[p]);
                }
            }
            return often;
        }
    }
}

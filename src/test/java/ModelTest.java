import java.util.Random;

/** Long runs of calls, drawn by chance from fixed seeds, on the class and on the model at once. */
public final class ModelTest {
    private static final int RUNS = 1500;
    private static final int CALLS = 512;
    private static final Check C = new Check();

    private final Random chance;
    private final QuiverDesk desk = new QuiverDesk();
    private final Model model = new Model();
    private int calls = 0;

    private ModelTest(int seed) {
        chance = new Random(seed);
    }

    public static void main(String[] args) {
        for (int seed = 0; seed < RUNS && C.wrong() < 20; seed++) {
            C.part("seed " + seed);
            new ModelTest(seed).run();
        }
        C.end();
    }

    private void run() {
        int style = chance.nextInt(4);
        while (calls < CALLS && C.wrong() < 20) {
            int kind = chance.nextInt(100);
            if (kind < (style == 0 ? 12 : 3)) {
                tellText();
            } else if (kind < 45) {
                change();
            } else if (kind < 85) {
                ask();
            } else {
                shelves();
            }
            if (chance.nextInt(40) == 0) {
                lookAtAll();
            }
        }
    }

    private void due(String call, int got, int want) {
        calls++;
        if (want != Model.UNTOLD) {
            C.due(calls + " " + call, got, want);
        }
    }

    /** Mostly 0 up to less than most, now and then just beyond or far out. */
    private int some(int most) {
        int kind = chance.nextInt(60);
        if (kind == 0) {
            return -1;
        }
        if (kind == 1) {
            return most;
        }
        if (kind == 2) {
            return chance.nextBoolean() ? Integer.MIN_VALUE + chance.nextInt(3) : Integer.MAX_VALUE - chance.nextInt(3);
        }
        return chance.nextInt(Math.max(1, most));
    }

    private int somePoint() {
        return some(model.now.n);
    }

    private int someRoot() {
        int size = model.count(4);
        return some(size < 0 ? 3 : size);
    }

    private void write(String letters) {
        for (int i = 0; i < letters.length() && calls < CALLS; i++) {
            int c = letters.charAt(i);
            due("write(" + c + ")", desk.write(c), model.write(c));
        }
    }

    private void tellText() {
        StringBuilder b = new StringBuilder();
        int n = model.now.n;
        int clauses = chance.nextInt(12) == 0 ? 20 + chance.nextInt(8) : 1 + chance.nextInt(7);
        for (int i = 0; i < clauses; i++) {
            int kind = i == 0 ? chance.nextInt(4) : 1 + chance.nextInt(9);
            if (i > 0) {
                b.append(chance.nextInt(5) == 0 ? " ; " : ";");
            }
            if (kind <= 1) {
                n = clauses > 12 && chance.nextInt(3) > 0 ? 2 : 1 + chance.nextInt(6);
                b.append("quiver ").append(n);
            } else if (kind < 8) {
                // mostly in one sense, so that few ways lead round
                int u = chance.nextInt(n);
                int v = chance.nextInt(n);
                boolean turnRound = u > v && chance.nextInt(10) > 0;
                b.append("arrow").append(chance.nextBoolean() ? " " : "").append(turnRound ? v : u).append(' ').append(turnRound ? u : v);
                if (u == v && chance.nextInt(8) > 0) {
                    b.setLength(b.length() - 1);
                    b.append(v == 0 ? Math.min(1, n - 1) : v - 1);
                }
            } else {
                b.append("row");
                for (int p = 0; p < n; p++) {
                    b.append(' ').append(chance.nextInt(chance.nextInt(6) == 0 ? 100 : 5));
                }
            }
        }
        if (chance.nextInt(3) == 0) {
            spoil(b);
        }
        if (chance.nextInt(4) > 0) {
            due("erase()", desk.erase(), model.erase());
        }
        write(b.toString());
        due("fault() of '" + model.text + "'", desk.fault(), model.fault());
        if (chance.nextInt(8) > 0) {
            due("quiver()", desk.quiver(), model.quiver());
        }
    }

    private void spoil(StringBuilder b) {
        String signs = " ;0123456789aqrwz;;  \t{`/:A-";
        for (int i = chance.nextInt(3); i >= 0 && b.length() > 0; i--) {
            int at = chance.nextInt(b.length());
            char sign = signs.charAt(chance.nextInt(signs.length()));
            switch (chance.nextInt(3)) {
                case 0:
                    b.deleteCharAt(at);
                    break;
                case 1:
                    b.insert(at, sign);
                    break;
                default:
                    b.setCharAt(at, sign);
                    break;
            }
        }
    }

    private void change() {
        int p = somePoint();
        int q = somePoint();
        int a = some(model.now.arrows.size());
        int v = chance.nextInt(5) == 0 ? chance.nextInt(205) - 102 : chance.nextInt(7);
        int way = some(2);
        int r = someRoot();
        switch (chance.nextInt(13)) {
            case 0:
            case 1:
            case 2:
                if (p > q && chance.nextInt(6) > 0) {
                    due("put(" + q + ", " + p + ")", desk.put(q, p), model.put(q, p));
                } else {
                    due("put(" + p + ", " + q + ")", desk.put(p, q), model.put(p, q));
                }
                break;
            case 3:
                due("cut(" + a + ")", desk.cut(a), model.cut(a));
                if (chance.nextBoolean()) {
                    due("cut(0)", desk.cut(0), model.cut(0));
                }
                break;
            case 4:
            case 5:
                due("turn(" + p + ")", desk.turn(p), model.turn(p));
                break;
            case 6:
            case 7:
                due("set(" + p + ", " + v + ")", desk.set(p, v), model.set(p, v));
                break;
            case 8:
                due("shift(" + way + ")", desk.shift(way), model.shift(way));
                break;
            case 9:
                due("take(" + r + ")", desk.take(r), model.take(r));
                break;
            case 10:
                for (int i = chance.nextInt(10); i >= 0; i -= 2) {
                    due("undo()", desk.undo(), model.undo());
                }
                break;
            case 11:
                due("keep(" + way + ")", desk.keep(way), model.keep(way));
                break;
            default:
                if (chance.nextInt(3) == 0) {
                    due("back(" + way + ")", desk.back(way), model.back(way));
                }
                break;
        }
    }

    private void ask() {
        int p = somePoint();
        int q = somePoint();
        int a = some(model.now.arrows.size());
        int r = someRoot();
        int s = someRoot();
        int what = some(13);
        switch (chance.nextInt(11)) {
            case 0:
                due("arrow(" + a + ", " + what % 3 + ")", desk.arrow(a, what % 3), model.arrow(a, what % 3));
                break;
            case 1:
                due("point(" + p + ", " + what % 7 + ")", desk.point(p, what % 7), model.point(p, what % 7));
                break;
            case 2:
                due("paths(" + p + ", " + q + ")", desk.paths(p, q), model.paths(p, q));
                break;
            case 3:
                due("turned(" + p + ")", desk.turned(p), model.turned(p));
                break;
            case 4:
                due("root(" + r + ", " + p + ")", desk.root(r, p), model.root(r, p));
                break;
            case 5:
            case 6:
                due("place(" + r + ", " + what % 7 + ")", desk.place(r, what % 7), model.place(r, what % 7));
                break;
            case 7:
                due("between(" + r + ", " + s + ", " + what % 4 + ")", desk.between(r, s, what % 4), model.between(r, s, what % 4));
                break;
            case 8:
                due("find()", desk.find(), model.find());
                break;
            case 9:
                due("sums()", desk.sums(), model.sums());
                break;
            default:
                due("count(" + what + ")", desk.count(what), model.count(what));
                break;
        }
    }

    private void shelves() {
        int s = some(3);
        int what = some(3);
        switch (chance.nextInt(12)) {
            case 0:
                due("drop(" + s + ")", desk.drop(s), model.drop(s));
                break;
            case 1:
                due("shelf(" + s + ")", desk.shelf(s), model.shelf(s));
                break;
            case 2:
            case 3:
                due("draw(" + s + ")", desk.draw(s), model.draw(s));
                break;
            case 4:
            case 5:
            case 6:
                due("add(" + s + ")", desk.add(s), model.add(s));
                break;
            case 7:
            case 8:
                due("euler(" + s + ", " + what + ")", desk.euler(s, what), model.euler(s, what));
                break;
            default:
                due("lay(" + s + ")", desk.lay(s), model.lay(s));
                break;
        }
    }

    /** What the calls so far have left, all of it; beyond the 512 calls this is free, so it counts as calls. */
    private void lookAtAll() {
        if (calls + 50 > CALLS) {
            return;
        }
        for (int what = 0; what < 13; what++) {
            due("count(" + what + ")", desk.count(what), model.count(what));
        }
        for (int p = 0; p < model.now.n; p++) {
            due("point(" + p + ", 0)", desk.point(p, 0), model.point(p, 0));
            due("point(" + p + ", 3)", desk.point(p, 3), model.point(p, 3));
        }
        for (int a = 0; a < model.now.arrows.size(); a++) {
            due("arrow(" + a + ", 0)", desk.arrow(a, 0), model.arrow(a, 0));
            due("arrow(" + a + ", 1)", desk.arrow(a, 1), model.arrow(a, 1));
        }
    }
}

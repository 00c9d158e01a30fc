/** Promise by promise: ordinary calls, the edges that the document names, wrong calls. */
public final class PromiseTest {
    private static final int NONE = -1000000, UNKNOWN = -1000001, OUTSIDE = -1000002, NOT = -1000003,
        FULL = -1000004, NULL = -1000011, EMPTY = -1000012, ROOM = -1000013, SIZE = -1000014;
    private static final int[] WRONG = {-1, Integer.MIN_VALUE, Integer.MAX_VALUE};
    private static final String E6 = "quiver 6;arrow 0 1;arrow 1 2;arrow 3 2;arrow 4 3;arrow 2 5";
    private static final String KRONECKER = "quiver 2;arrow 0 1;arrow 0 1";
    private static final Check C = new Check();

    public static void main(String[] args) {
        constants();
        newObject();
        writeAndErase();
        faults();
        faultsAtBounds();
        quiver();
        arrow();
        point();
        paths();
        put();
        cut();
        turn();
        set();
        shift();
        take();
        undo();
        keepAndBack();
        turned();
        root();
        place();
        between();
        find();
        sums();
        shelf();
        lay();
        draw();
        add();
        euler();
        drop();
        count();
        C.end();
    }

    private static void constants() {
        C.part("constants");
        C.due("NONE", QuiverDesk.NONE, NONE);
        C.due("UNKNOWN", QuiverDesk.UNKNOWN, UNKNOWN);
        C.due("OUTSIDE", QuiverDesk.OUTSIDE, OUTSIDE);
        C.due("NOT", QuiverDesk.NOT, NOT);
        C.due("FULL", QuiverDesk.FULL, FULL);
        C.due("NULL", QuiverDesk.NULL, NULL);
        C.due("EMPTY", QuiverDesk.EMPTY, EMPTY);
        C.due("ROOM", QuiverDesk.ROOM, ROOM);
        C.due("SIZE", QuiverDesk.SIZE, SIZE);
    }

    private static void newObject() {
        C.part("promise 1");
        QuiverDesk d = new QuiverDesk();
        C.due("points", d.count(0), 3);
        C.due("arrows", d.count(1), 0);
        for (int p = 0; p < 3; p++) {
            C.due("x", d.point(p, 0), 0);
        }
        C.due("undone", d.count(11), 0);
        C.due("letters", d.count(12), 0);
        for (int s = 0; s < 3; s++) {
            C.due("lay", d.lay(s), NULL);
        }
        C.due("back(0)", d.back(0), NOT);
        C.due("back(1)", d.back(1), NOT);
    }

    private static void writeAndErase() {
        C.part("promise 2, 3");
        QuiverDesk d = new QuiverDesk();
        C.due("erase of nothing", d.erase(), 0);
        C.due("write(0)", d.write(0), 1);
        C.due("write(255)", d.write(255), 2);
        C.due("write(256)", d.write(256), OUTSIDE);
        for (int w : WRONG) {
            C.due("write(wrong)", d.write(w), OUTSIDE);
        }
        for (int i = 3; i <= 200; i++) {
            C.due("write", d.write('a'), i);
        }
        C.due("write the 201st", d.write('a'), FULL);
        C.due("a wrong letter is named ahead of FULL", d.write(256), OUTSIDE);
        C.due("letters", d.count(12), 200);
        C.due("erase", d.erase(), 200);
        C.due("letters", d.count(12), 0);
        C.due("write behind erase", d.write(' '), 1);
    }

    private static void fault(String letters, int place) {
        QuiverDesk d = Check.told(new QuiverDesk(), letters);
        C.due("fault of '" + letters + "'", d.fault(), place);
        C.due("letters behind fault of '" + letters + "'", d.count(12), letters.length());
        C.due("quiver of '" + letters + "'", Math.max(d.quiver(), NOT), place < 0 ? letters.split(";", -1).length : NOT);
    }

    private static void faults() {
        C.part("promise 4");
        fault("", 0);
        fault("   ", 3);
        fault("row 1 2 3", -1);
        fault("  row 1  2 03 ", -1);
        fault("row1 2 3;arrow0 1;quiver6", -1);
        fault("row 1 2 3;", 10);
        fault("row 1 2 3; ", 11);
        fault(";", 0);
        fault("row 1 2 3;;", 10);
        fault("row 1 2", 7);
        fault("row 1 2 ", 8);
        fault("row 1 2;", 7);
        fault("row 1 2 3 4", 10);
        fault("row 1 2 3row", 9);
        fault("row 1 2 3 arrow 0 1", 10);
        fault("row 1 2 100", 8);
        fault("row 1 2 99", -1);
        fault("row 1 2 000", 8);
        fault("row 1 -2 3", 6);
        fault("row 1 2 x", 8);
        fault("Row 1 2 3", 0);
        fault("rows 1 2 3", 0);
        fault("ro 1 2 3", 0);
        fault("arro 0 1", 0);
        fault("aow 1 2 3", 0);
        fault("rowz 1 2 3", 0);
        fault("rowa 1 2 3", 0);
        fault("row1 2 30", -1);
        fault("row1 2 39", -1);
        fault("arroww 0 1", 0);
        fault("quiverarrow 0 1", 0);
        fault("12", 0);
        fault("quiver", 6);
        fault("quiver 0", 7);
        fault("quiver 1", -1);
        fault("quiver 6", -1);
        fault("quiver 06", -1);
        fault("quiver 006", 7);
        fault("quiver 7", 7);
        fault("quiver 16", 7);
        fault("quiver 4294967297", 7);
        fault("quiver 2 3", 9);
        fault("quiver;", 6);
        fault("arrow 0 1", -1);
        fault("arrow 0", 7);
        fault("arrow 01", 8);
        fault("arrow 3 0", 6);
        fault("arrow 0 3", 8);
        fault("arrow 1 1", 8);
        fault("arrow 0 1;arrow 1 0", 18);
        fault("arrow 0 1;arrow 0 1", -1);
        fault("arrow 0 1;arrow 1 2;arrow 2 0", 28);
        fault("arrow 0 1;arrow 1 2;arrow 0 2", -1);
        fault("quiver 4;arrow 3 0", -1);
        fault("quiver 1;arrow 0 0", 17);
        fault("quiver 2;row 1 2 3", 17);
        fault("arrow 0 1;quiver 3;arrow 1 0", -1);
        fault("row 1 2 3\t", 9);
        fault("row\n1 2 3", 3);
        fault("row 1 2 3" + (char) 0, 9);
        fault("row 1 2 3" + (char) 160, 9);
        fault("row 1 2 3,", 9);
        fault("{ow 1 2 3", 0);
        fault("`ow 1 2 3", 0);
        fault("row 1 2 /", 8);
        fault("row 1 2 :", 8);
    }

    private static void faultsAtBounds() {
        C.part("promise 4, bounds");
        String ten = "arrow0 1;".repeat(9) + "arrow0 1";
        fault(ten, -1);
        fault(ten + ";arrow 0 1", ten.length() + 1);
        fault(ten + ";arrow 9 9", ten.length() + 1);
        fault(ten + ";quiver 3;arrow 0 1", -1);
        String clauses = "quiver2;".repeat(23) + "quiver2";
        fault(clauses, -1);
        fault(clauses + " ", -1);
        fault(clauses + " ;", clauses.length() + 1);
        fault(clauses + ";quiver2", clauses.length());
        fault(clauses + "quiver2", clauses.length());
        fault(" ".repeat(200), 200);
        fault("row 1 2 3" + " ".repeat(191), -1);
        fault("row 1 2 " + "3".repeat(192), 8);
        fault("r".repeat(200), 0);
        fault("row 1 2 3" + " ".repeat(190) + ";", 200);
        fault("row 1 2 3" + " ".repeat(190) + "?", 199);
        QuiverDesk d = Check.made(ten);
        C.due("ten come", d.point(1, 4), 10);
        C.due("ten go", d.point(0, 5), 10);
        C.due("ten turned", d.turn(1), 0);
        C.due("ten are turned", d.point(1, 5), 10);
        d.undo();
        C.due("TITS by ten", d.count(2), 0);
        Check.told(d, "row 1 2 3; arrow 1 2");
        C.due("eleventh over arrows that were there", d.fault(), 11);
        d.erase();
        d.cut(0);
        Check.told(d, "arrow 1 0");
        C.due("way round with arrows that were there", d.fault(), 8);
    }

    private static void quiver() {
        C.part("promise 5");
        QuiverDesk d = new QuiverDesk();
        d.shelf(1);
        d.lay(1);
        d.put(0, 1);
        d.set(2, -7);
        d.keep(0);
        d.keep(1);
        Check.told(d, "arrow 1 2;row 4 5");
        C.due("with a fault", d.quiver(), NOT);
        C.due("letters stay", d.count(12), 17);
        C.due("arrows stay", d.count(1), 1);
        C.due("undone stay", d.count(11), 2);
        C.due("kept stays", d.keep(1), 1);
        d.erase();
        Check.told(d, " arrow 1 2 ; arrow 0 2 ");
        C.due("clauses", d.quiver(), 2);
        C.due("letters", d.count(12), 0);
        C.due("what there was stays", d.count(1), 3);
        C.due("arrow 0", d.arrow(0, 1), 1);
        C.due("arrow 1", d.arrow(1, 0) * 10 + d.arrow(1, 1), 12);
        C.due("arrow 2", d.arrow(2, 0) * 10 + d.arrow(2, 1), 2);
        C.due("x stays", d.point(2, 0), -7);
        C.due("undone", d.undo(), NOT);
        C.due("kept 0", d.back(0), NOT);
        C.due("kept 1", d.back(1), NOT);
        C.due("shelves stay", d.count(10), 1);
        Check.told(d, "row 7 8 99;quiver 5;arrow 4 0");
        C.due("clauses", d.quiver(), 3);
        C.due("points", d.count(0), 5);
        C.due("arrows", d.count(1), 1);
        for (int p = 0; p < 5; p++) {
            C.due("x is 0", d.point(p, 0), 0);
        }
        C.due("roots", d.count(4), 6);
        Check.told(d, "arrow 1 0");
        d.quiver();
        C.due("roots of the new arrows", d.count(4), 8);
        C.due("an empty text", d.quiver(), NOT);
        Check.told(d, "row 1 2 3 4 5;row 9 8 7 6 99");
        d.quiver();
        C.due("the later row", d.point(4, 0) * 100 + d.point(0, 0), 9909);
    }

    private static void arrow() {
        C.part("promise 6");
        QuiverDesk d = Check.made("quiver 4;arrow 2 1;arrow 0 3");
        C.due("from", d.arrow(1, 0), 0);
        C.due("to", d.arrow(1, 1), 3);
        C.due("what 2", d.arrow(1, 2), OUTSIDE);
        C.due("what -1", d.arrow(1, -1), OUTSIDE);
        C.due("arrow 2", d.arrow(2, 0), UNKNOWN);
        C.due("both wrong", d.arrow(2, 2), UNKNOWN);
        for (int w : WRONG) {
            C.due("arrow", d.arrow(w, 0), UNKNOWN);
            C.due("what", d.arrow(0, w), OUTSIDE);
        }
    }

    private static void point() {
        C.part("promise 7");
        QuiverDesk d = Check.made("quiver 5;arrow 0 2;arrow 0 2;arrow 2 4;arrow 1 4;row 5 6 7 8 9");
        int[][] want = {{5, 0, 1, 3, 0, 2}, {6, 0, 1, 2, 0, 1}, {7, 0, 0, -1, 2, 1}, {8, 1, 1, -1, 0, 0}, {9, 1, 0, -1, 2, 0}};
        int[] places = {4, 2, 3, 0, 1};
        for (int p = 0; p < 5; p++) {
            for (int what = 0; what < 6; what++) {
                C.due("point(" + p + ", " + what + ")", d.point(p, what), what == 3 ? places[p] : want[p][what]);
            }
        }
        C.due("no such point", d.point(5, 0), UNKNOWN);
        C.due("both wrong", d.point(5, 6), UNKNOWN);
        C.due("what 6", d.point(0, 6), OUTSIDE);
        for (int w : WRONG) {
            C.due("point", d.point(w, 0), UNKNOWN);
            C.due("what", d.point(0, w), OUTSIDE);
        }
        d.turn(4);
        C.due("place behind turn", d.point(4, 3), 4);
    }

    private static void paths() {
        C.part("promise 8");
        QuiverDesk d = Check.made("quiver 6;arrow 5 4;arrow 5 4;arrow 4 3;arrow 4 3;arrow 3 2;arrow 3 2;arrow 2 1;arrow 2 1;arrow 1 0;arrow 1 0");
        C.due("all along", d.paths(5, 0), 32);
        C.due("in the middle", d.paths(4, 2), 4);
        C.due("against", d.paths(0, 5), 0);
        C.due("itself", d.paths(3, 3), 1);
        C.due("all", d.count(8), 6 + 5 * 2 + 4 * 4 + 3 * 8 + 2 * 16 + 32);
        C.due("from 6", d.paths(6, 0), UNKNOWN);
        C.due("to 6", d.paths(0, 6), UNKNOWN);
        for (int w : WRONG) {
            C.due("from", d.paths(w, 0), UNKNOWN);
            C.due("to", d.paths(0, w), UNKNOWN);
        }
        QuiverDesk e = Check.made("quiver 4;arrow 0 1;arrow 1 3;arrow 0 2;arrow 2 3;arrow 0 3");
        C.due("three ways", e.paths(0, 3), 3);
        e.cut(4);
        C.due("two ways", e.paths(0, 3), 2);
    }

    private static void put() {
        C.part("promise 9");
        QuiverDesk d = new QuiverDesk();
        C.due("first", d.put(2, 1), 0);
        C.due("second", d.put(1, 0), 1);
        C.due("round by two", d.put(1, 2), NOT);
        C.due("round by three", d.put(0, 2), NOT);
        C.due("twice the same", d.put(1, 1), UNKNOWN);
        C.due("no such point", d.put(3, 0), UNKNOWN);
        C.due("no such point", d.put(0, 3), UNKNOWN);
        for (int w : WRONG) {
            C.due("from", d.put(w, 0), UNKNOWN);
            C.due("to", d.put(0, w), UNKNOWN);
            C.due("both", d.put(w, w), UNKNOWN);
        }
        C.due("refused ones cannot be undone", d.count(11), 2);
        for (int i = 2; i < 10; i++) {
            C.due("more", d.put(2, 0), i);
        }
        C.due("eleventh", d.put(2, 0), FULL);
        C.due("eleventh round", d.put(0, 2), NOT);
        C.due("eleventh at one point", d.put(0, 0), UNKNOWN);
        C.due("arrows", d.count(1), 10);
        C.due("from, to", d.arrow(9, 0) * 10 + d.arrow(9, 1), 20);
    }

    private static void cut() {
        C.part("promise 10");
        QuiverDesk d = Check.made("quiver 4;arrow 0 1;arrow 1 2;arrow 2 3");
        C.due("no such arrow", d.cut(3), UNKNOWN);
        for (int w : WRONG) {
            C.due("arrow", d.cut(w), UNKNOWN);
        }
        C.due("cut", d.cut(1), 2);
        C.due("later one", d.arrow(1, 0) * 10 + d.arrow(1, 1), 23);
        C.due("earlier one", d.arrow(0, 0) * 10 + d.arrow(0, 1), 1);
        C.due("the last number is gone", d.arrow(2, 0), UNKNOWN);
        C.due("put behind", d.put(3, 0), 2);
        C.due("cut the last", d.cut(2), 2);
        C.due("cut", d.cut(0), 1);
        C.due("cut", d.cut(0), 0);
        C.due("none left", d.cut(0), UNKNOWN);
    }

    private static void turn() {
        C.part("promise 11");
        QuiverDesk d = Check.made("quiver 4;arrow 0 1;arrow 1 2;arrow 3 1;row 1 2 3 4");
        C.due("neither", d.turn(1), NOT);
        C.due("no such point", d.turn(4), UNKNOWN);
        for (int w : WRONG) {
            C.due("point", d.turn(w), UNKNOWN);
        }
        C.due("refused", d.count(11), 0);
        C.due("a sink", d.turn(2), -1);
        C.due("x there", d.point(2, 0), -1);
        C.due("x else", d.point(1, 0), 2);
        C.due("its arrow", d.arrow(1, 0) * 10 + d.arrow(1, 1), 21);
        C.due("others stay", d.arrow(0, 0) * 10 + d.arrow(0, 1), 1);
        C.due("1 is a sink now", d.turn(1), 1 - 1 + 4 - 2);
        C.due("all its arrows", d.count(6), 1 + 4 + 8);
        C.due("a source", d.turn(1), 2);
        C.due("back again", d.count(7), 1 + 4 + 8);
        QuiverDesk far = Check.made("quiver 2;arrow 0 1;arrow 0 1;row 50 1");
        C.due("99 is within", far.turn(1), 99);
        far = Check.made("quiver 2;arrow 0 1;arrow 0 1;row 50 0");
        C.due("100 is beyond", far.turn(1), NOT);
        C.due("arrows stay", far.arrow(0, 0), 0);
        C.due("x stays", far.point(1, 0), 0);
        far.set(0, -50);
        C.due("-100 is beyond", far.turn(1), NOT);
        far.set(1, -1);
        C.due("-99 is within", far.turn(1), -99);
        QuiverDesk lone = Check.made("quiver 1;row 99");
        C.due("both sink and source", lone.turn(0), -99);
    }

    private static void set() {
        C.part("promise 12");
        QuiverDesk d = new QuiverDesk();
        C.due("99", d.set(0, 99), 0);
        C.due("-99", d.set(0, -99), 99);
        C.due("100", d.set(0, 100), OUTSIDE);
        C.due("-100", d.set(0, -100), OUTSIDE);
        C.due("stays", d.point(0, 0), -99);
        C.due("no such point", d.set(3, 0), UNKNOWN);
        C.due("both wrong", d.set(3, 100), UNKNOWN);
        for (int w : WRONG) {
            C.due("point", d.set(w, 0), UNKNOWN);
        }
        C.due("OUTSIDE", d.set(0, Integer.MIN_VALUE), OUTSIDE);
        C.due("OUTSIDE", d.set(0, Integer.MAX_VALUE), OUTSIDE);
        C.due("two done", d.count(11), 2);
    }

    private static void shift() {
        C.part("promise 13");
        QuiverDesk d = Check.made("quiver 3;arrow 0 1;arrow 1 2;row 1 0 0");
        C.due("back", d.shift(0), 1);
        C.due("root 0 goes to root 1", d.find(), 1);
        d.shift(0);
        C.due("and to root 2", d.find(), 2);
        d.shift(0);
        C.due("a projective one goes below 0", d.point(0, 0) * 100 + d.point(1, 0) * 10 + d.point(2, 0), -111);
        for (int i = 0; i < 3; i++) {
            C.due("on", d.shift(1), 1);
        }
        C.due("all back", d.find(), 0);
        C.due("way 2", d.shift(2), OUTSIDE);
        for (int w : WRONG) {
            C.due("way", d.shift(w), OUTSIDE);
        }
        C.due("refused ones cannot be undone", d.count(11), 6);
        QuiverDesk far = Check.made(KRONECKER + ";row 98 99");
        C.due("goes down", far.shift(0), 1);
        C.due("x", far.point(0, 0) * 100 + far.point(1, 0), 9697);
        C.due("goes up", far.shift(1), 1);
        C.due("beyond", far.shift(1), NOT);
        C.due("x stays", far.point(0, 0) * 100 + far.point(1, 0), 9899);
        C.due("refused", far.count(11), 2);
        QuiverDesk one = Check.made("quiver 2;arrow 0 1;row 60 0");
        one.set(1, -50);
        C.due("beyond at one point alone", one.shift(0), NOT);
        one.set(1, -39);
        C.due("99 is within", one.shift(0), 60 * 60 + 39 * 39 + 60 * 39);
        C.due("x", one.point(0, 0) * 100 + one.point(1, 0), 3999);
    }

    private static void take() {
        C.part("promise 14");
        QuiverDesk d = Check.made(E6);
        C.due("the highest", d.take(35), 11);
        int[] highest = {1, 2, 3, 2, 1, 2};
        for (int p = 0; p < 6; p++) {
            C.due("x", d.point(p, 0), highest[p]);
        }
        C.due("the first", d.take(0), 1);
        C.due("36", d.take(36), UNKNOWN);
        for (int w : WRONG) {
            C.due("root", d.take(w), UNKNOWN);
        }
        C.due("two done", d.count(11), 2);
        QuiverDesk k = Check.made(KRONECKER);
        C.due("not finite", k.take(0), NOT);
        C.due("not finite, no such root", k.take(-1), NOT);
        C.due("none done", k.count(11), 0);
    }

    private static void undo() {
        C.part("promise 15");
        QuiverDesk d = new QuiverDesk();
        C.due("none", d.undo(), NOT);
        d.put(0, 1);
        d.cut(0);
        d.put(1, 2);
        d.turn(2);
        d.set(0, 5);
        d.shift(0);
        d.take(3);
        d.shelf(0);
        d.lay(0);
        d.add(0);
        C.due("eight", d.count(11), 8);
        d.set(1, d.point(1, 0));
        C.due("eight at most", d.count(11), 8);
        C.due("nothing became other", d.undo(), 7);
        int before = d.point(0, 0);
        C.due("add undone", d.undo(), 6);
        C.due("x halved", d.point(0, 0) * 2, before);
        C.due("take undone", d.undo(), 5);
        C.due("x at 0 behind shift", d.point(0, 0), -5);
        C.due("shift undone", d.undo(), 4);
        C.due("x at 0", d.point(0, 0), 5);
        C.due("set undone", d.undo(), 3);
        C.due("x at 0", d.point(0, 0), 0);
        C.due("turned arrow", d.arrow(0, 0), 2);
        C.due("turn undone", d.undo(), 2);
        C.due("arrow", d.arrow(0, 0), 1);
        C.due("put undone", d.undo(), 1);
        C.due("arrows", d.count(1), 0);
        C.due("cut undone", d.undo(), 0);
        C.due("arrow is there again", d.arrow(0, 0) * 10 + d.arrow(0, 1), 1);
        C.due("the first put is out of reach", d.undo(), NOT);
        C.due("its arrow stays", d.count(1), 1);
        C.due("roots of it", d.count(4), 4);

        d = Check.made("row 1 2 3");
        d.shelf(0);
        d.lay(0);
        d.set(0, 9);
        d.set(0, 8);
        C.due("draw is not undone", d.draw(0), 0);
        C.due("drawn", d.point(0, 0), 1);
        C.due("whatever draw did", d.undo(), 1);
        C.due("x ahead of the second set", d.point(0, 0), 9);
        C.due("the row is not on the shelf again", d.count(10), 0);
        C.due("undo", d.undo(), 0);
        C.due("x ahead of the first", d.point(0, 0), 1);
        for (int i = 0; i < 20; i++) {
            d.set(0, i);
        }
        for (int i = 7; i >= 0; i--) {
            C.due("undo", d.undo(), i);
            C.due("x", d.point(0, 0), 11 + i);
        }
        C.due("no more", d.undo(), NOT);
        d.put(0, 1);
        d.put(0, 2);
        C.due("roots", d.count(4), 6);
        C.due("paths", d.paths(0, 2), 1);
        d.undo();
        C.due("roots behind undo", d.count(4), 4);
        C.due("paths behind undo", d.paths(0, 2), 0);
    }

    private static void keepAndBack() {
        C.part("promise 16, 17");
        QuiverDesk d = Check.made("quiver 4;arrow 0 1;row 1 2 3 4");
        C.due("keep", d.keep(0), 1);
        d.put(1, 2);
        d.set(0, 9);
        C.due("keep", d.keep(1), 2);
        C.due("undone stays", d.count(11), 2);
        C.due("keep 2", d.keep(2), UNKNOWN);
        C.due("back 2", d.back(2), UNKNOWN);
        for (int w : WRONG) {
            C.due("keep", d.keep(w), UNKNOWN);
            C.due("back", d.back(w), UNKNOWN);
        }
        C.due("back", d.back(0), 1);
        C.due("x", d.point(0, 0), 1);
        C.due("nothing undone", d.undo(), NOT);
        C.due("roots", d.count(4), 5);
        C.due("the other", d.back(1), 2);
        C.due("x", d.point(0, 0), 9);
        C.due("roots", d.count(4), 7);
        d.cut(0);
        C.due("as often as one likes", d.back(1), 2);
        d.cut(1);
        C.due("kept anew", d.keep(1), 1);
        C.due("back", d.back(0), 1);
        d.set(3, 0);
        C.due("back", d.back(1), 1);
        C.due("x", d.point(3, 0), 4);
        Check.told(d, "quiver 2");
        d.quiver();
        C.due("behind a text", d.back(0), NOT);
        C.due("keep", d.keep(0), 0);
        C.due("only one was kept", d.back(1), NOT);
        d.put(0, 1);
        C.due("back", d.back(0), 0);
        C.due("points", d.count(0), 2);
    }

    private static void turned() {
        C.part("promise 18");
        QuiverDesk d = Check.made("quiver 4;arrow 0 1;arrow 1 2;arrow 1 2;arrow 3 1;row 99 1 99 99");
        C.due("neither sink nor source, beyond bounds", d.turned(1), 4 * 99 - 1);
        C.due("by two arrows", d.turned(2), 2 - 99);
        C.due("x stays", d.point(1, 0), 1);
        C.due("no such point", d.turned(4), UNKNOWN);
        for (int w : WRONG) {
            C.due("point", d.turned(w), UNKNOWN);
        }
        C.due("a lone point", Check.made("quiver 1;row 7").turned(0), -7);
    }

    private static void root() {
        C.part("promise 19");
        QuiverDesk d = Check.made("quiver 4;arrow 1 0;arrow 2 0;arrow 3 0");
        int[][] want = {{1, 0, 0, 0}, {0, 1, 0, 0}, {0, 0, 1, 0}, {0, 0, 0, 1}, {1, 1, 0, 0}, {1, 0, 1, 0},
            {1, 0, 0, 1}, {1, 1, 1, 0}, {1, 1, 0, 1}, {1, 0, 1, 1}, {1, 1, 1, 1}, {2, 1, 1, 1}};
        for (int r = 0; r < 12; r++) {
            for (int p = 0; p < 4; p++) {
                C.due("root(" + r + ", " + p + ")", d.root(r, p), want[r][p]);
            }
        }
        C.due("no such root", d.root(12, 0), UNKNOWN);
        C.due("no such point", d.root(0, 4), UNKNOWN);
        for (int w : WRONG) {
            C.due("root", d.root(w, 0), UNKNOWN);
            C.due("point", d.root(0, w), UNKNOWN);
        }
        C.due("not finite", Check.made(KRONECKER).root(0, 0), NOT);
        C.due("not finite ahead of unknown", Check.made(KRONECKER).root(99, 9), NOT);
        C.due("a ring of three is not finite", Check.made("arrow 0 1;arrow 1 2;arrow 0 2").root(0, 0), NOT);
        C.due("a star of four is not finite",
            Check.made("quiver 5;arrow 1 0;arrow 2 0;arrow 3 0;arrow 4 0").root(0, 0), NOT);
    }

    private static void place() {
        C.part("promise 20");
        QuiverDesk d = Check.made("quiver 3;arrow 1 0;arrow 1 2");
        // roots: 100 010 001 110 011 111; projectives: 100, 111, 001; injectives: 110, 010, 011
        int[][] want = {
            {1, NONE, 0, 0, NONE, NONE}, {1, 5, 1, 1, 4, 1}, {1, NONE, 0, 2, NONE, NONE},
            {2, 2, 1, 2, 3, 0}, {2, 0, 1, 0, 3, 2}, {3, NONE, 0, 1, NONE, NONE}};
        for (int r = 0; r < 6; r++) {
            for (int what = 0; what < 6; what++) {
                C.due("place(" + r + ", " + what + ")", d.place(r, what), want[r][what]);
            }
        }
        C.due("no such root", d.place(6, 0), UNKNOWN);
        C.due("both wrong", d.place(6, 6), UNKNOWN);
        C.due("what 6", d.place(0, 6), OUTSIDE);
        for (int w : WRONG) {
            C.due("root", d.place(w, 0), UNKNOWN);
            C.due("what", d.place(0, w), OUTSIDE);
        }
        C.due("not finite", Check.made(KRONECKER).place(0, 0), NOT);
        C.due("not finite ahead of all", Check.made(KRONECKER).place(-1, -1), NOT);
        d.turn(0);
        C.due("behind turn: 100 has a tau", d.place(0, 2), 2);
    }

    private static void between() {
        C.part("promise 21");
        QuiverDesk d = Check.made("quiver 3;arrow 0 1;arrow 1 2");
        int[][] euler = new int[6][6];
        int[][] rows = {{1, 0, 0}, {0, 1, 0}, {0, 0, 1}, {1, 1, 0}, {0, 1, 1}, {1, 1, 1}};
        for (int i = 0; i < 6; i++) {
            for (int j = 0; j < 6; j++) {
                int[] y = rows[i];
                int[] z = rows[j];
                euler[i][j] = y[0] * z[0] + y[1] * z[1] + y[2] * z[2] - y[0] * z[1] - y[1] * z[2];
                C.due("hom", d.between(i, j, 0), Math.max(0, euler[i][j]));
                C.due("ext", d.between(i, j, 1), Math.max(0, -euler[i][j]));
                C.due("euler", d.between(i, j, 2), euler[i][j]);
            }
        }
        C.due("what 3", d.between(0, 0, 3), OUTSIDE);
        C.due("one", d.between(6, 0, 0), UNKNOWN);
        C.due("other", d.between(0, 6, 0), UNKNOWN);
        C.due("all wrong", d.between(6, 6, 3), UNKNOWN);
        for (int w : WRONG) {
            C.due("one", d.between(w, 0, 0), UNKNOWN);
            C.due("other", d.between(0, w, 0), UNKNOWN);
            C.due("what", d.between(0, 0, w), OUTSIDE);
        }
        C.due("not finite", Check.made(KRONECKER).between(-1, -1, -1), NOT);
    }

    private static void find() {
        C.part("promise 22");
        QuiverDesk d = Check.made(E6 + ";row 1 2 3 2 1 2");
        C.due("the highest", d.find(), 35);
        d.set(5, 1);
        C.due("the last but one", d.find(), 34);
        d.set(5, 0);
        C.due("none", d.find(), NONE);
        for (int r = 0; r < 36; r++) {
            d.take(r);
            C.due("each", d.find(), r);
        }
        C.due("0 is none", new QuiverDesk().find(), NONE);
        d = new QuiverDesk();
        d.set(1, -1);
        C.due("below 0", d.find(), NONE);
        C.due("not finite", Check.made(KRONECKER + ";row 1 0").find(), NOT);
    }

    private static void sums() {
        C.part("promise 23");
        QuiverDesk d = Check.made(E6);
        C.due("0 in one way", d.sums(), 1);
        d.set(3, -1);
        d.set(2, 50);
        C.due("below 0", d.sums(), 0);
        C.due("not finite", Check.made(KRONECKER).sums(), NOT);
        C.due("no arrows", Check.made("row 99 99 99").sums(), 1);
        d = Check.made("quiver 2;arrow 0 1;row 0 5");
        d.set(0, -1);
        C.due("below 0 at the first point", d.sums(), 0);
        C.due("little at the first point", Check.made("quiver 3;arrow 0 1;arrow 1 2;row 1 9 9").sums(), 10 + 9 + 9);
        C.due("nothing at the first point", Check.made("quiver 3;arrow 0 1;arrow 1 2;row 0 9 9").sums(), 10);
        C.due("little at the last point", Check.made("quiver 3;arrow 0 1;arrow 1 2;row 9 9 1").sums(), 10 + 9 + 9);
        C.due("two points", Check.made("quiver 2;arrow 0 1;row 99 98").sums(), 99);
        C.due("three in a row", Check.made("quiver 3;arrow 0 1;arrow 1 2;row 2 2 2").sums(), 10);
        C.due("a gap", Check.made("quiver 3;arrow 0 1;arrow 1 2;row 50 0 50").sums(), 1);
        C.due("all 99", Check.made(E6 + ";row 99 99 99 99 99 99").sums(), 9999);
        // (a + 1)(b + 1) ways beside one another: two pieces of two points each
        String pieces = "quiver 4;arrow 0 1;arrow 3 2;row ";
        C.due("99 by 101", Check.made(pieces + "98 99 99 99").sums(), 9900);
        C.due("100 by 100 is cut to 9999", Check.made(pieces + "99 99 99 99").sums(), 9999);
        C.due("90 by 100", Check.made(pieces + "89 99 99 99").sums(), 9000);
    }

    private static void shelf() {
        C.part("promise 24");
        QuiverDesk d = new QuiverDesk();
        C.due("new", d.shelf(2), 0);
        C.due("lay", d.lay(2), 1);
        C.due("new again", d.shelf(2), 0);
        C.due("with nothing", d.draw(2), EMPTY);
        C.due("others are missing", d.draw(0), NULL);
        C.due("no such", d.shelf(3), UNKNOWN);
        for (int w : WRONG) {
            C.due("shelf", d.shelf(w), UNKNOWN);
        }
        C.due("not to be undone", d.count(11), 0);
    }

    private static void lay() {
        C.part("promise 25");
        QuiverDesk d = new QuiverDesk();
        C.due("missing", d.lay(0), NULL);
        d.shelf(0);
        for (int i = 1; i <= 4; i++) {
            d.set(0, i);
            C.due("lay", d.lay(0), i);
        }
        C.due("a fifth", d.lay(0), ROOM);
        C.due("rows", d.count(10), 4);
        C.due("no such", d.lay(3), UNKNOWN);
        for (int w : WRONG) {
            C.due("shelf", d.lay(w), UNKNOWN);
        }
        Check.told(d, "quiver 2");
        d.quiver();
        C.due("full, of another size too", d.lay(0), ROOM);
        d.shelf(1);
        d.lay(1);
        Check.told(d, "quiver 3");
        d.quiver();
        C.due("rows of other sizes side by side", d.lay(1), 2);
        C.due("the last fits", d.draw(1), 1);
        C.due("the one ahead does not", d.draw(1), SIZE);
    }

    private static void draw() {
        C.part("promise 26");
        QuiverDesk d = Check.made("row 1 2 3");
        C.due("missing", d.draw(1), NULL);
        d.shelf(1);
        C.due("empty", d.draw(1), EMPTY);
        d.lay(1);
        d.set(2, -9);
        d.lay(1);
        d.set(2, 50);
        C.due("the last", d.draw(1), 1);
        C.due("x", d.point(2, 0), -9);
        C.due("no more to undo by it", d.count(11), 2);
        C.due("the first", d.draw(1), 0);
        C.due("x", d.point(2, 0) * 100 + d.point(1, 0) * 10 + d.point(0, 0), 321);
        C.due("empty", d.draw(1), EMPTY);
        C.due("no such", d.draw(3), UNKNOWN);
        for (int w : WRONG) {
            C.due("shelf", d.draw(w), UNKNOWN);
        }
        d.lay(1);
        Check.told(d, "quiver 4;row 4 4 4 4");
        d.quiver();
        C.due("of another size", d.draw(1), SIZE);
        C.due("x stays", d.point(0, 0), 4);
        C.due("the row stays", d.count(10), 1);
    }

    private static void add() {
        C.part("promise 27");
        QuiverDesk d = Check.made("row 40 2 3");
        C.due("missing", d.add(1), NULL);
        d.shelf(1);
        C.due("empty", d.add(1), EMPTY);
        d.lay(1);
        C.due("add", d.add(1), 80);
        C.due("x", d.point(1, 0) * 10 + d.point(2, 0), 46);
        C.due("beyond", d.add(1), NOT);
        C.due("x stays", d.point(1, 0), 4);
        d.set(0, 59);
        C.due("99 is within", d.add(1), 99);
        C.due("the row stays", d.count(10), 1);
        C.due("four done less one refused", d.count(11), 3);
        d.set(0, -40);
        d.set(2, 97);
        C.due("beyond at the last point", d.add(1), NOT);
        C.due("x stays at the first", d.point(0, 0), -40);
        d.set(2, 96);
        C.due("within", d.add(1), 0);
        C.due("no such", d.add(3), UNKNOWN);
        for (int w : WRONG) {
            C.due("shelf", d.add(w), UNKNOWN);
        }
        Check.told(d, "quiver 2;row 99 99");
        d.quiver();
        C.due("of another size", d.add(1), SIZE);
        C.due("none done", d.count(11), 0);
        QuiverDesk six = Check.made("quiver 6;row 1 1 1 1 1 99");
        six.shelf(0);
        six.lay(0);
        C.due("beyond at the sixth point", six.add(0), NOT);
        six.set(5, 0);
        C.due("99 at the sixth point", six.add(0), 2);
        QuiverDesk e = new QuiverDesk();
        e.set(0, -60);
        e.shelf(0);
        e.lay(0);
        C.due("-120", e.add(0), NOT);
        e.set(0, -39);
        C.due("-99", e.add(0), -99);
    }

    private static void euler() {
        C.part("promise 28");
        QuiverDesk d = Check.made("quiver 3;arrow 0 1;arrow 0 1;arrow 1 2;row 1 2 3");
        C.due("missing", d.euler(0, 0), NULL);
        d.shelf(0);
        C.due("empty", d.euler(0, 0), EMPTY);
        d.lay(0);
        d.set(0, 5);
        d.set(1, -7);
        d.set(2, 11);
        int xy = 5 - 14 + 33 - 2 * 5 * 2 + 7 * 3;
        int yx = 5 - 14 + 33 - 2 * -7 - 2 * 11;
        C.due("x, row", d.euler(0, 0), xy);
        C.due("row, x", d.euler(0, 1), yx);
        C.due("both", d.euler(0, 2), xy + yx);
        C.due("what 3", d.euler(0, 3), OUTSIDE);
        C.due("what is looked at ahead of what is missing", d.euler(1, 3), OUTSIDE);
        C.due("no such", d.euler(3, 0), UNKNOWN);
        C.due("both wrong", d.euler(3, 3), UNKNOWN);
        for (int w : WRONG) {
            C.due("shelf", d.euler(w, 0), UNKNOWN);
            C.due("what", d.euler(0, w), OUTSIDE);
        }
        Check.told(d, "quiver 2");
        d.quiver();
        C.due("of another size", d.euler(0, 0), SIZE);
        C.due("the row stays", d.count(10), 1);
    }

    private static void drop() {
        C.part("promise 29");
        QuiverDesk d = new QuiverDesk();
        C.due("missing", d.drop(0), NULL);
        d.shelf(0);
        C.due("with nothing", d.drop(0), 0);
        C.due("missing again", d.drop(0), NULL);
        d.shelf(0);
        d.lay(0);
        d.lay(0);
        C.due("with two", d.drop(0), 2);
        C.due("rows", d.count(10), 0);
        C.due("lay", d.lay(0), NULL);
        d.shelf(0);
        C.due("a new one has none", d.draw(0), EMPTY);
        C.due("no such", d.drop(3), UNKNOWN);
        for (int w : WRONG) {
            C.due("shelf", d.drop(w), UNKNOWN);
        }
    }

    private static void count() {
        C.part("promise 30");
        QuiverDesk d = Check.made("quiver 5;arrow 0 1;arrow 2 1;arrow 3 2;row 1 2 3 4 5");
        d.shelf(0);
        d.shelf(2);
        d.lay(0);
        d.lay(2);
        d.lay(2);
        d.set(0, 1);
        d.write('x');
        int tits = 1 + 4 + 9 + 16 + 25 - 2 - 6 - 12;
        int[] want = {5, 3, tits, tits - 1, 11, 2, 2 + 16, 1 + 8 + 16, 5 + 4, 0, 3, 1, 1};
        for (int what = 0; what < 13; what++) {
            C.due("count(" + what + ")", d.count(what), want[what]);
        }
        C.due("count(13)", d.count(13), OUTSIDE);
        for (int w : WRONG) {
            C.due("what", d.count(w), OUTSIDE);
        }
        C.due("sources without the first point", Check.made("quiver 2;arrow 1 0").count(7), 2);
        C.due("sinks without the first point", Check.made("quiver 2;arrow 0 1").count(6), 2);
        d.put(4, 3);
        C.due("hangs together", d.count(9), 1);
        C.due("roots", d.count(4), 15);
        d.put(4, 3);
        C.due("roots", d.count(4), NONE);
        C.due("deepest", d.count(5), NONE);
        C.due("one point hangs together", Check.made("quiver 1").count(9), 1);
        C.due("E6", Check.made(E6).count(4), 36);
        C.due("E6, deepest", Check.made(E6).count(5), 5);
        C.due("two beside one another, deepest in the second", Check.made("quiver 4;arrow 1 2;arrow 2 3").count(5), 2);
        C.due("E6, TITS", Check.made(E6 + ";row 1 1 1 1 1 1").count(2), 1);
        C.due("D6", Check.made("quiver 6;arrow 0 1;arrow 1 2;arrow 2 3;arrow 3 4;arrow 3 5").count(4), 30);
        C.due("A6", Check.made("quiver 6;arrow 0 1;arrow 1 2;arrow 2 3;arrow 3 4;arrow 4 5").count(4), 21);
        C.due("D5", Check.made("quiver 5;arrow 0 1;arrow 1 2;arrow 2 3;arrow 2 4").count(4), 20);
        C.due("a ring of six", Check.made("quiver 6;arrow 0 1;arrow 1 2;arrow 2 3;arrow 3 4;arrow 4 5;arrow 0 5").count(4), NONE);
        C.due("D5 with a tail at each end", Check.made("quiver 6;arrow 0 2;arrow 1 2;arrow 2 3;arrow 3 4;arrow 3 5").count(4), NONE);
    }
}

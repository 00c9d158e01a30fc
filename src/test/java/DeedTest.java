/** The promises' own sentences on what is done, undone, kept and laid on shelves: their edges, one by one. */
public final class DeedTest {
    private static final Check C = new Check();

    public static void main(String[] args) {
        newObject();
        cut();
        set();
        take();
        undoOfEach();
        undoOfEight();
        undoAndOthers();
        keep();
        back();
        shelf();
        lay();
        draw();
        add();
        euler();
        drop();
        count();
        C.end();
    }

    private static void edge(String sentence, String lines) {
        Scene.play(C, sentence, lines);
    }

    private static void newObject() {
        edge("1: three points, no arrows, and nothing else", """
            count 0 = 3 | count 1 = 0 | count 2 = 0 | count 3 = -1 | count 4 = 3 | count 5 = 0 | count 6 = 7 | count 7 = 7 | count 8 = 3
            count 9 = 0 | count 10 = 0 | count 11 = 0 | count 12 = 0 | undo = NOT | back 0 = NOT | back 1 = NOT | fault = 0 | erase = 0
            """);
        C.part("1: two objects are apart");
        Scene one = new Scene().go(C, "put 0 1 = 0 | set 0 5 = 0 | shelf 0 = 0 | lay 0 = 1 | keep 0 = 1 | write 97 = 1");
        new Scene().go(C, "count 1 = 0 | x = 0 0 0 | lay 0 = NULL | back 0 = NOT | undo = NOT | count 12 = 0");
        one.go(C, "count 1 = 1 | x = 5 0 0 | draw 0 = 0 | back 0 = 1 | count 12 = 1");
    }

    private static void cut() {
        String four = "tell \"quiver 5;arrow 0 1;arrow 1 2;arrow 2 3;arrow 3 4\" | quiver = 5\n";
        edge("10: the first; later ones have one number less", four + "cut 0 = 3 | arrows = 12 23 34");
        edge("10: one between", four + "cut 2 = 3 | arrows = 01 12 34 | cut 1 = 2 | arrows = 01 34");
        edge("10: the last", four + "cut 3 = 3 | arrows = 01 12 23 | cut 3 = UNKNOWN | arrow 3 0 = UNKNOWN");
        edge("10: the only one, then none", "put 2 0 = 0 | cut 0 = 0 | cut 0 = UNKNOWN | arrows = | count 6 = 7");
        edge("10: of ten, the first and the last", """
            tell "arrow1 2;" * 9 | tell "arrow0 2" | quiver = 10 | cut 10 = UNKNOWN | cut -1 = UNKNOWN | cut 0 = 9 | arrow 8 0 = 0 | arrow 9 0 = UNKNOWN
            put 0 1 = 9 | cut 8 = 9 | arrow 8 1 = 1
            """);
    }

    private static void set() {
        edge("12: what it was", "set 1 -99 = 0 | set 1 99 = -99 | set 1 99 = 99 | set 1 0 = 99 | set 1 0 = 0 | x = 0 0 0");
    }

    private static void take() {
        edge("14: the first and the last ROOT, no more", """
            take 0 = 1 | x = 1 0 0 | take 2 = 1 | x = 0 0 1 | take 3 = UNKNOWN | take -1 = UNKNOWN | x = 0 0 1 | count 11 = 2
            put 0 1 = 0 | take 3 = 2 | x = 1 1 0 | take 4 = UNKNOWN
            """);
        edge("14: x is all the ROOT, whatever it was", "set 0 -99 = 0 | set 1 99 = 0 | set 2 7 = 0 | take 1 = 1 | x = 0 1 0");
    }

    private static void undoOfEach() {
        edge("15: none", "undo = NOT | x = 0 0 0");
        edge("15: put()", "put 0 1 = 0 | put 1 2 = 1 | undo = 1 | arrows = 01 | undo = 0 | arrows = | undo = NOT");
        edge("15: cut() gives the ARROW its number again", "put 0 1 = 0 | put 1 2 = 1 | put 0 2 = 2 | cut 0 = 2 | arrows = 12 02 | undo = 3 | arrows = 01 12 02");
        edge("15: turn()", "put 0 1 = 0 | set 0 5 = 0 | turn 1 = 5 | arrows = 10 | x = 5 5 0 | undo = 2 | arrows = 01 | x = 5 0 0");
        edge("15: set()", "set 1 7 = 0 | set 1 8 = 7 | undo = 1 | x = 0 7 0 | undo = 0 | x = 0 0 0");
        edge("15: shift()", "set 0 7 = 0 | shift 0 = 49 | x = -7 0 0 | undo = 1 | x = 7 0 0 | shift 1 = 49 | undo = 1 | x = 7 0 0");
        edge("15: take()", "set 0 7 = 0 | take 1 = 1 | undo = 1 | x = 7 0 0");
        edge("15: add()", "set 0 7 = 0 | shelf 0 | lay 0 = 1 | add 0 = 14 | count 11 = 2 | undo = 1 | x = 7 0 0 | count 10 = 1");
        edge("15: one by which nothing became other", """
            set 0 0 = 0 | count 11 = 1 | shift 0 = 0 | count 11 = 2 | turn 0 = 0 | count 11 = 3 | shelf 0 | lay 0 = 1 | add 0 = 0 | count 11 = 4
            undo = 3 | undo = 2 | undo = 1 | undo = 0 | undo = NOT | x = 0 0 0
            """);
        edge("15: take() of the ROOT that x is", "take 1 = 1 | take 1 = 1 | count 11 = 2 | undo = 1 | x = 0 1 0 | undo = 0 | x = 0 0 0");
        edge("15: what is refused cannot be undone", """
            put 0 0 = UNKNOWN | cut 0 = UNKNOWN | turn 3 = UNKNOWN | set 0 100 = OUTSIDE | shift 2 = OUTSIDE | take 3 = UNKNOWN | add 0 = NULL
            count 11 = 0 | undo = NOT
            """);
    }

    private static void undoOfEight() {
        edge("15: the last 8 can be; eight", """
            set 0 1 | set 0 2 | set 0 3 | set 0 4 | set 0 5 | set 0 6 | set 0 7 | count 11 = 7 | set 0 8 | count 11 = 8
            undo = 7 | undo = 6 | undo = 5 | undo = 4 | undo = 3 | undo = 2 | undo = 1 | x = 1 0 0 | undo = 0 | x = 0 0 0 | undo = NOT
            """);
        edge("15: the last 8 can be; by the ninth the first is out of reach", """
            set 0 1 | set 0 2 | set 0 3 | set 0 4 | set 0 5 | set 0 6 | set 0 7 | set 0 8 | set 0 9 | count 11 = 8
            undo = 7 | x = 8 0 0 | undo = 6 | undo = 5 | undo = 4 | undo = 3 | undo = 2 | undo = 1 | x = 2 0 0 | undo = 0 | x = 1 0 0
            undo = NOT | x = 1 0 0
            """);
        edge("15: an ARROW that was put ahead of the last 8 stays", """
            put 0 1 = 0 | set 0 1 | set 0 2 | set 0 3 | set 0 4 | set 0 5 | set 0 6 | set 0 7 | set 0 8
            undo = 7 | undo = 6 | undo = 5 | undo = 4 | undo = 3 | undo = 2 | undo = 1 | undo = 0 | undo = NOT | x = 0 0 0 | arrows = 01
            """);
        edge("15: one that is refused puts none of the 8 out of reach", """
            set 0 1 | set 0 2 | set 0 3 | set 0 4 | set 0 5 | set 0 6 | set 0 7 | set 0 8 | set 0 100 = OUTSIDE | put 1 1 = UNKNOWN | turn 9 = UNKNOWN
            shift 2 = OUTSIDE | take 99 = UNKNOWN | add 0 = NULL | cut 0 = UNKNOWN | undo = 7
            undo = 6 | undo = 5 | undo = 4 | undo = 3 | undo = 2 | undo = 1 | undo = 0 | x = 0 0 0
            """);
        edge("15: undone and done anew, round and round", """
            set 0 1 | set 0 2 | set 0 3 | set 0 4 | set 0 5 | set 0 6 | undo = 5 | undo = 4 | x = 4 0 0 | set 0 10 | set 0 11 | set 0 12 | set 0 13
            count 11 = 8 | set 0 14 | count 11 = 8 | undo = 7 | x = 13 0 0 | undo = 6 | undo = 5 | undo = 4 | x = 10 0 0 | undo = 3 | x = 4 0 0
            undo = 2 | undo = 1 | undo = 0 | x = 1 0 0 | undo = NOT | set 0 2 | undo = 0 | x = 1 0 0
            """);
        edge("15: what was undone is not done again", "set 0 1 | set 0 2 | undo = 1 | set 0 3 = 1 | undo = 1 | x = 1 0 0 | undo = 0 | x = 0 0 0");
    }

    private static void undoAndOthers() {
        edge("15: whatever draw() did since", """
            set 0 5 | shelf 0 | lay 0 = 1 | set 0 6 | draw 0 = 0 | x = 5 0 0 | count 11 = 2 | undo = 1 | x = 5 0 0 | count 10 = 0
            undo = 0 | x = 0 0 0
            """);
        edge("15: whatever draw() did since, ARROWS too", """
            set 2 5 | shelf 0 | lay 0 = 1 | set 2 0 | put 0 1 = 0 | draw 0 = 0 | x = 0 0 5 | undo = 2 | arrows = | x = 0 0 0
            undo = 1 | x = 0 0 5
            """);
        edge("15: draw() itself is not undone", "set 0 5 | shelf 0 | lay 0 = 1 | tell \"row 1 2 3\" | quiver = 1 | draw 0 = 0 | undo = NOT | x = 5 0 0");
        edge("15: add(), then draw() of its own ROW", "set 0 5 | shelf 0 | lay 0 = 1 | add 0 = 10 | draw 0 = 0 | x = 5 0 0 | set 0 9 = 5 | undo = 2 | x = 5 0 0 | undo = 1 | x = 5 0 0 | undo = 0 | x = 0 0 0");
        edge("15: SHELVES, THE TEXT and what is kept stay by undo()", """
            set 0 5 | keep 0 = 0 | shelf 0 | lay 0 = 1 | tell "row" | undo = 0 | x = 0 0 0 | count 10 = 1 | count 12 = 3 | back 0 = 0 | x = 5 0 0
            """);
        edge("15: write(), erase(), keep(), shelf(), lay(), drop() are not undone", """
            set 0 5 | write 97 | erase | keep 0 | shelf 0 | lay 0 | drop 0 | count 11 = 1 | undo = 0 | undo = NOT | lay 0 = NULL
            """);
    }

    private static void keep() {
        edge("16: k 0, 1", "keep 0 = 0 | keep 1 = 0 | keep 2 = UNKNOWN | keep -1 = UNKNOWN | keep LEAST = UNKNOWN | keep MOST = UNKNOWN");
        edge("16: ARROWS, none and ten", "keep 0 = 0 | tell \"arrow0 1;\" * 9 | tell \"arrow0 1\" | quiver = 10 | keep 1 = 10 | cut 0 = 9 | keep 0 = 9 | back 1 = 10 | back 0 = 9");
        edge("16: as they are now", "set 0 5 | keep 0 = 0 | set 0 6 | put 0 1 | turn 1 = 6 | back 0 = 0 | x = 5 0 0 | arrows = ");
        edge("16: kept again, the later stays", "set 0 5 | keep 0 | set 0 6 | keep 0 | set 0 7 | back 0 = 0 | x = 6 0 0");
        edge("16: two stand beside one another", "set 0 5 | keep 0 | set 0 6 | keep 1 | back 0 = 0 | x = 5 0 0 | back 1 = 0 | x = 6 0 0 | back 0 = 0 | x = 5 0 0");
        edge("16: keep() leaves what can be undone", "set 0 5 | keep 0 = 0 | count 11 = 1 | undo = 0 | x = 0 0 0");
    }

    private static void back() {
        edge("17: no such k, also where nothing was kept", "back 2 = UNKNOWN | back -1 = UNKNOWN | back LEAST = UNKNOWN | back MOST = UNKNOWN | back 0 = NOT | back 1 = NOT");
        edge("17: only the other was kept", "keep 0 = 0 | back 1 = NOT | back 0 = 0 | tell \"quiver 3\" | quiver = 1 | keep 1 = 0 | back 0 = NOT | back 1 = 0");
        edge("17: nothing can be undone", "set 0 1 | keep 0 | set 0 2 | count 11 = 2 | back 0 = 0 | count 11 = 0 | undo = NOT | x = 1 0 0 | set 0 3 | undo = 0 | x = 1 0 0 | undo = NOT");
        edge("17: a refused one leaves what can be undone", "set 0 1 | back 0 = NOT | back 2 = UNKNOWN | count 11 = 1 | undo = 0 | x = 0 0 0");
        edge("17: again and again", "set 0 1 | keep 0 | set 0 2 | back 0 = 0 | set 0 3 | back 0 = 0 | x = 1 0 0 | back 0 = 0 | x = 1 0 0");
        edge("17: SHELVES and THE TEXT stay", "set 0 1 | keep 0 | set 0 2 | shelf 1 | lay 1 = 1 | tell \"row\" | back 0 = 0 | count 10 = 1 | count 12 = 3 | draw 1 = 0 | x = 2 0 0");
        edge("17: a draw() behind it leaves what is kept", "set 0 1 | shelf 0 | lay 0 = 1 | set 0 2 | keep 0 | draw 0 = 0 | x = 1 0 0 | back 0 = 0 | x = 2 0 0");
        edge("17: ROOTS and RIGHT ORDER go back too", "put 0 1 | keep 0 = 1 | count 4 = 4 | put 0 1 | count 4 = NONE | back 0 = 1 | count 4 = 4 | point 0 3 = 1 | turn 0 = 0 | point 0 3 = 0 | back 0 = 1 | point 0 3 = 1");
        edge("17: the last text is one that was done, not one with a FAULT", "keep 0 = 0 | tell \"row 1 2 3;\" | quiver = NOT | back 0 = 0 | tell \"quiver 3\" | back 0 = 0 | quiver = 2 | back 0 = NOT");
    }

    private static void shelf() {
        edge("24: a new one, with nothing, again too", "shelf 0 = 0 | lay 0 = 1 | lay 0 = 2 | shelf 0 = 0 | count 10 = 0 | draw 0 = EMPTY | lay 0 = 1");
        edge("24: the others stay", "shelf 0 | shelf 1 | shelf 2 | lay 0 | lay 1 | lay 2 | shelf 1 = 0 | count 10 = 2 | draw 0 = 0 | draw 1 = EMPTY | draw 2 = 0");
    }

    private static void lay() {
        edge("25: behind all", "shelf 1 | set 0 1 | lay 1 = 1 | set 0 2 | lay 1 = 2 | set 0 3 | lay 1 = 3 | draw 1 = 2 | x = 3 0 0 | draw 1 = 1 | x = 2 0 0 | draw 1 = 0 | x = 1 0 0");
        edge("25: x stays", "set 0 7 | shelf 1 | lay 1 = 1 | x = 7 0 0 | count 11 = 1");
        edge("25: x of -99 and 99", "set 0 -99 | set 2 99 | shelf 1 | lay 1 = 1 | tell \"quiver 3\" | quiver = 1 | draw 1 = 0 | x = -99 0 99");
    }

    private static void draw() {
        edge("26: the only one goes", "set 0 7 | shelf 1 | lay 1 = 1 | set 0 8 | draw 1 = 0 | x = 7 0 0 | draw 1 = EMPTY | x = 7 0 0 | count 10 = 0");
        edge("26: ARROWS stay, and what is found is of the new x", "put 0 1 | set 0 1 | shelf 1 | lay 1 | set 0 0 | set 1 1 | find = 1 | draw 1 = 0 | find = 0 | arrows = 01 | count 2 = 1");
    }

    private static void add() {
        edge("27: 99 and 100 at the first POINT", "set 0 50 | shelf 0 | lay 0 | set 0 49 | add 0 = 99 | add 0 = NOT | x = 99 0 0 | set 0 50 | add 0 = NOT | x = 50 0 0");
        edge("27: -99 and -100 at the first POINT", "set 0 -50 | shelf 0 | lay 0 | set 0 -49 | add 0 = -99 | add 0 = NOT | set 0 -50 | add 0 = NOT | x = -50 0 0");
        edge("27: 99 and 100 at the last POINT", "set 2 50 | set 0 1 | shelf 0 | lay 0 | set 2 49 | add 0 = 2 | x = 2 0 99 | add 0 = NOT | x = 2 0 99");
        edge("27: -99 and -100 at the sixth POINT", "tell \"quiver 6\" | quiver | set 5 -50 | set 0 1 | shelf 0 | lay 0 | set 5 -49 | add 0 = 2 | add 0 = NOT | x = 2 0 0 0 0 -99");
        edge("27: the ROW stays, and is the last one", "set 0 1 | shelf 0 | lay 0 | set 0 10 | lay 0 | add 0 = 20 | add 0 = 30 | count 10 = 2 | draw 0 = 1 | x = 10 0 0 | add 0 = 11");
        edge("27: x at POINT 0 may be 0 and below", "set 0 -5 | set 1 3 | shelf 0 | lay 0 | add 0 = -10 | x = -10 6 0 | set 0 5 | add 0 = 0 | x = 0 9 0");
    }

    private static void euler() {
        edge("28: the last ROW alone, that stays", "put 0 1 | set 0 1 | shelf 0 | lay 0 | set 1 1 | set 0 0 | lay 0 | euler 0 0 = 1 | euler 0 0 = 1 | count 10 = 2 | draw 0 = 1 | euler 0 0 = 0 | euler 0 1 = -1 | euler 0 2 = -1");
        edge("28: of x 0", "shelf 0 | lay 0 | euler 0 0 = 0 | euler 0 1 = 0 | euler 0 2 = 0");
    }

    private static void drop() {
        edge("29: how many ROWS it had, none to four", """
            shelf 0 | drop 0 = 0 | drop 0 = NULL | shelf 0 | lay 0 | drop 0 = 1 | shelf 0 | lay 0 | lay 0 | lay 0 | lay 0 = 4 | drop 0 = 4 | drop 0 = NULL
            draw 0 = NULL | add 0 = NULL | euler 0 0 = NULL | lay 0 = NULL | count 10 = 0 | shelf 0 = 0 | draw 0 = EMPTY | lay 0 = 1
            """);
        edge("29: the others stay", "shelf 0 | shelf 2 | lay 0 | lay 2 | lay 2 | drop 0 = 1 | count 10 = 2 | draw 2 = 1");
    }

    private static void count() {
        edge("30: hangs together by ARROWS either way", """
            count 9 = 0 | put 0 1 | count 9 = 0 | put 2 1 | count 9 = 1 | cut 0 | count 9 = 0 | put 1 0 | count 9 = 1
            tell "quiver 1" | quiver | count 9 = 1 | tell "quiver 2" | quiver | count 9 = 0 | put 1 0 | count 9 = 1
            tell "quiver 6;arrow 5 4;arrow 4 3;arrow 3 2;arrow 2 1" | quiver | count 9 = 0 | put 0 1 | count 9 = 1
            tell "quiver 6;arrow 0 1;arrow 2 1;arrow 2 3;arrow 4 3;arrow 4 5" | quiver | count 9 = 1 | cut 4 | count 9 = 0
            """);
        edge("30: what can be undone, none to eight", """
            count 11 = 0 | set 0 1 | count 11 = 1 | set 0 1 | set 0 1 | set 0 1 | set 0 1 | set 0 1 | set 0 1 | count 11 = 7 | set 0 1 | count 11 = 8 | set 0 1 | count 11 = 8
            """);
        edge("30: ROWS of all SHELVES, none to twelve", "count 10 = 0 | shelf 0 | count 10 = 0 | lay 0 | count 10 = 1 | shelf 2 | lay 2 | count 10 = 2 | drop 0 | count 10 = 1");
        edge("30: letters, none to 200", "count 12 = 0 | tell \"a\" * 199 | count 12 = 199 | write 97 = 200 | count 12 = 200 | write 97 = FULL | count 12 = 200");
        edge("30: SINKS and SOURCES by bits", "put 0 2 | count 6 = 6 | count 7 = 3 | put 1 2 | count 6 = 4 | count 7 = 3 | turn 2 | count 6 = 3 | count 7 = 4");
    }
}

import java.util.ArrayList;
import java.util.List;

/**
 * Each refusal by itself; where two fit, that the one that the call names first is answered; and that
 * nothing has changed behind it: two objects of the same making, of which one had the refused call
 * besides, are emptied of all that they hold, and have to tell the same.
 */
public final class RefusalTest {
    private static final Check C = new Check();
    private static final int WAYS_TO_LOOK = 6;

    /** Something everywhere: four POINTS, both kept, more done than can be undone, two SHELVES of three, a TEXT. */
    private static final String BUSY = """
        tell "quiver 4;arrow 0 1;arrow 2 1;arrow 3 1;row 1 2 3 4" | quiver
        shelf 0 | lay 0 | keep 0 | set 0 6 | lay 0 | put 0 2 | shelf 1 | cut 3 | set 1 3 | turn 1 | keep 1 | set 2 5 | turn 1 | set 3 2 | shift 0 | set 0 4
        tell "row 5 6 7 8;arrow 0 2"
        """;
    private static final String ENDLESS = BUSY + "put 0 1\n";
    private static final String TEN = BUSY + "put 0 1 | put 0 1 | put 0 1 | put 0 1 | put 0 1 | put 0 1 | put 0 1\n";
    private static final String FULL_TEXT = BUSY + "tell \" \" * 179\n";
    private static final String FULL_SHELF = BUSY + "set 0 1 | lay 0 | set 0 2 | lay 0 | set 0 3\n";
    /** The last ROW of SHELF 0 is of four POINTS still, that of SHELF 1 of three. */
    private static final String OTHER_SIZE = BUSY + "erase | tell \"quiver 3;row 9 8 7\" | quiver | shelf 1 | lay 1 | keep 0 | set 0 99 | set 1 2 | put 0 1\n";
    private static final String NOTHING_KEPT = "tell \"quiver 4;arrow 0 1;row 1 2 3 4\" | quiver | shelf 0 | lay 0 | tell \"row 1 2 3 4\"\n";

    public static void main(String[] args) {
        sceneIsAsMeant();
        told();
        done();
        doneBeyondBounds();
        undoneAndKept();
        found();
        foundOfEndless();
        shelves();
        shelvesOfOtherSize();
        questions();
        C.end();
    }

    /** A scene that went wrong would have refusals of its own, and show nothing. */
    private static void sceneIsAsMeant() {
        C.part("the scenes");
        new Scene().go(C, BUSY + "count 0 = 4 | count 1 = 3 | count 4 = 12 | count 10 = 2 | count 11 = 8 | count 12 = 21 | fault = -1 | arrows = 01 21 31");
        new Scene().go(C, ENDLESS + "count 4 = NONE | count 11 = 8 | count 1 = 4");
        new Scene().go(C, TEN + "count 1 = 10");
        new Scene().go(C, FULL_TEXT + "count 12 = 200 | fault = -1");
        new Scene().go(C, FULL_SHELF + "count 10 = 4");
        new Scene().go(C, OTHER_SIZE + "count 0 = 3 | count 10 = 3 | draw 0 = SIZE | draw 1 = 0");
        new Scene().go(C, NOTHING_KEPT + "undo = NOT | back 0 = NOT | back 1 = NOT | count 10 = 1");
    }

    private static void told() {
        refused("2: OUTSIDE", BUSY, "write 256", "OUTSIDE");
        refused("2: OUTSIDE", BUSY, "write -1", "OUTSIDE");
        refused("2: FULL", FULL_TEXT, "write 0", "FULL");
        refused("2: FULL", FULL_TEXT, "write 59", "FULL");
        refused("2: OUTSIDE ahead of FULL", FULL_TEXT, "write 256", "OUTSIDE");
        refused("2: OUTSIDE ahead of FULL", FULL_TEXT, "write -1", "OUTSIDE");
        refused("5: NOT, a TOKEN", BUSY + "tell \"!\"", "quiver", "NOT");
        refused("5: NOT, the end", BUSY + "tell \";quiver 2;row 1\"", "quiver", "NOT");
        refused("5: NOT, empty", BUSY + "erase", "quiver", "NOT");
        refused("6: UNKNOWN", BUSY, "arrow 3 0", "UNKNOWN");
        refused("6: UNKNOWN", BUSY, "arrow -1 1", "UNKNOWN");
        refused("6: OUTSIDE", BUSY, "arrow 2 2", "OUTSIDE");
        refused("6: OUTSIDE", BUSY, "arrow 0 -1", "OUTSIDE");
        refused("6: UNKNOWN ahead of OUTSIDE", BUSY, "arrow 3 2", "UNKNOWN");
        refused("7: UNKNOWN", BUSY, "point 4 3", "UNKNOWN");
        refused("7: UNKNOWN", BUSY, "point -1 0", "UNKNOWN");
        refused("7: OUTSIDE", BUSY, "point 3 6", "OUTSIDE");
        refused("7: OUTSIDE", BUSY, "point 0 -1", "OUTSIDE");
        refused("7: UNKNOWN ahead of OUTSIDE", BUSY, "point 4 6", "UNKNOWN");
        refused("8: UNKNOWN", BUSY, "paths 4 0", "UNKNOWN");
        refused("8: UNKNOWN", BUSY, "paths 0 4", "UNKNOWN");
        refused("8: UNKNOWN", BUSY, "paths -1 -1", "UNKNOWN");
        refused("30: OUTSIDE", BUSY, "count 13", "OUTSIDE");
        refused("30: OUTSIDE", BUSY, "count -1", "OUTSIDE");
    }

    private static void done() {
        refused("9: UNKNOWN, from", BUSY, "put 4 0", "UNKNOWN");
        refused("9: UNKNOWN, to", BUSY, "put 0 4", "UNKNOWN");
        refused("9: UNKNOWN, below", BUSY, "put -1 0", "UNKNOWN");
        refused("9: UNKNOWN, below", BUSY, "put 0 -1", "UNKNOWN");
        refused("9: UNKNOWN, a POINT twice", BUSY, "put 2 2", "UNKNOWN");
        refused("9: NOT", BUSY, "put 1 0", "NOT");
        refused("9: FULL", TEN, "put 0 1", "FULL");
        refused("9: FULL", TEN, "put 0 2", "FULL");
        refused("9: UNKNOWN ahead of FULL", TEN, "put 0 4", "UNKNOWN");
        refused("9: UNKNOWN ahead of FULL", TEN, "put -1 0", "UNKNOWN");
        refused("9: UNKNOWN, a POINT twice, ahead of NOT and FULL", TEN, "put 1 1", "UNKNOWN");
        refused("9: NOT ahead of FULL", TEN, "put 1 0", "NOT");
        refused("10: UNKNOWN", BUSY, "cut 3", "UNKNOWN");
        refused("10: UNKNOWN", BUSY, "cut -1", "UNKNOWN");
        refused("10: UNKNOWN, none is there", BUSY + "cut 0 | cut 0 | cut 0", "cut 0", "UNKNOWN");
        refused("10: UNKNOWN, ten are there", TEN, "cut 10", "UNKNOWN");
        refused("11: UNKNOWN", BUSY, "turn 4", "UNKNOWN");
        refused("11: UNKNOWN", BUSY, "turn -1", "UNKNOWN");
        refused("11: NOT, neither SINK nor SOURCE", BUSY + "put 0 2", "turn 2", "NOT");
        refused("12: UNKNOWN", BUSY, "set 4 0", "UNKNOWN");
        refused("12: UNKNOWN", BUSY, "set -1 99", "UNKNOWN");
        refused("12: OUTSIDE", BUSY, "set 3 100", "OUTSIDE");
        refused("12: OUTSIDE", BUSY, "set 0 -100", "OUTSIDE");
        refused("12: UNKNOWN ahead of OUTSIDE", BUSY, "set 4 100", "UNKNOWN");
        refused("13: OUTSIDE", BUSY, "shift 2", "OUTSIDE");
        refused("13: OUTSIDE", BUSY, "shift -1", "OUTSIDE");
    }

    private static void doneBeyondBounds() {
        String great = BUSY + "set 0 99 | set 2 99 | set 3 99 | set 1 -99\n";
        refused("11: NOT, beyond", great, "turn 1", "NOT");
        refused("11: NOT, neither and beyond", great + "put 1 2", "turn 1", "NOT");
        refused("11: NOT, beyond below", BUSY + "set 0 -99 | set 2 -99 | set 1 99", "turn 1", "NOT");
        refused("11: UNKNOWN where others would be beyond", great, "turn 4", "UNKNOWN");
        refused("13: NOT, back", great, "shift 0", "NOT");
        refused("13: NOT, on", great, "shift 1", "NOT");
        refused("13: OUTSIDE ahead of NOT", great, "shift 2", "OUTSIDE");
        refused("13: OUTSIDE ahead of NOT", great, "shift -1", "OUTSIDE");
        refused("27: NOT, beyond", BUSY + "set 0 94", "add 0", "NOT");
        refused("27: NOT, beyond at the last POINT", BUSY + "set 3 96", "add 0", "NOT");
        refused("27: NOT, beyond below", BUSY + "shelf 0 | set 1 -50 | lay 0", "add 0", "NOT");
    }

    private static void undoneAndKept() {
        refused("15: NOT", NOTHING_KEPT, "undo", "NOT");
        refused("15: NOT, all undone", BUSY + "undo | undo | undo | undo | undo | undo | undo | undo", "undo", "NOT");
        refused("15: NOT, behind back()", BUSY + "back 1", "undo", "NOT");
        refused("16: UNKNOWN", BUSY, "keep 2", "UNKNOWN");
        refused("16: UNKNOWN", BUSY, "keep -1", "UNKNOWN");
        refused("17: UNKNOWN", BUSY, "back 2", "UNKNOWN");
        refused("17: UNKNOWN", BUSY, "back -1", "UNKNOWN");
        refused("17: NOT", NOTHING_KEPT, "back 0", "NOT");
        refused("17: NOT", NOTHING_KEPT, "back 1", "NOT");
        refused("17: NOT, with one kept", NOTHING_KEPT + "keep 0 | set 0 9", "back 1", "NOT");
        refused("17: NOT, with the other kept", NOTHING_KEPT + "keep 1 | set 0 9", "back 0", "NOT");
        refused("17: NOT, kept ahead of the text", BUSY + "quiver | set 0 9", "back 1", "NOT");
        refused("17: UNKNOWN ahead of NOT", NOTHING_KEPT, "back 2", "UNKNOWN");
        refused("17: UNKNOWN ahead of NOT", NOTHING_KEPT, "back -1", "UNKNOWN");
    }

    private static void found() {
        refused("18: UNKNOWN", BUSY, "turned 4", "UNKNOWN");
        refused("18: UNKNOWN", BUSY, "turned -1", "UNKNOWN");
        refused("14: UNKNOWN", BUSY, "take 12", "UNKNOWN");
        refused("14: UNKNOWN", BUSY, "take -1", "UNKNOWN");
        refused("19: UNKNOWN, root", BUSY, "root 12 0", "UNKNOWN");
        refused("19: UNKNOWN, root below", BUSY, "root -1 0", "UNKNOWN");
        refused("19: UNKNOWN, point", BUSY, "root 11 4", "UNKNOWN");
        refused("19: UNKNOWN, point below", BUSY, "root 0 -1", "UNKNOWN");
        refused("20: UNKNOWN", BUSY, "place 12 0", "UNKNOWN");
        refused("20: UNKNOWN", BUSY, "place -1 5", "UNKNOWN");
        refused("20: OUTSIDE", BUSY, "place 11 6", "OUTSIDE");
        refused("20: OUTSIDE", BUSY, "place 0 -1", "OUTSIDE");
        refused("20: UNKNOWN ahead of OUTSIDE", BUSY, "place 12 6", "UNKNOWN");
        refused("20: UNKNOWN ahead of OUTSIDE", BUSY, "place -1 -1", "UNKNOWN");
        refused("21: UNKNOWN, one", BUSY, "between 12 0 0", "UNKNOWN");
        refused("21: UNKNOWN, one below", BUSY, "between -1 0 0", "UNKNOWN");
        refused("21: UNKNOWN, other", BUSY, "between 0 12 2", "UNKNOWN");
        refused("21: UNKNOWN, other below", BUSY, "between 0 -1 1", "UNKNOWN");
        refused("21: OUTSIDE", BUSY, "between 11 11 3", "OUTSIDE");
        refused("21: OUTSIDE", BUSY, "between 0 0 -1", "OUTSIDE");
        refused("21: UNKNOWN ahead of OUTSIDE", BUSY, "between 12 0 3", "UNKNOWN");
        refused("21: UNKNOWN ahead of OUTSIDE", BUSY, "between 0 12 -1", "UNKNOWN");
    }

    private static void foundOfEndless() {
        refused("14: NOT", ENDLESS, "take 0", "NOT");
        refused("14: NOT ahead of UNKNOWN", ENDLESS, "take -1", "NOT");
        refused("14: NOT ahead of UNKNOWN", ENDLESS, "take 36", "NOT");
        refused("19: NOT", ENDLESS, "root 0 0", "NOT");
        refused("19: NOT ahead of UNKNOWN, root", ENDLESS, "root -1 0", "NOT");
        refused("19: NOT ahead of UNKNOWN, point", ENDLESS, "root 0 4", "NOT");
        refused("20: NOT", ENDLESS, "place 0 0", "NOT");
        refused("20: NOT ahead of UNKNOWN", ENDLESS, "place -1 0", "NOT");
        refused("20: NOT ahead of OUTSIDE", ENDLESS, "place 0 6", "NOT");
        refused("20: NOT ahead of UNKNOWN and OUTSIDE", ENDLESS, "place 36 -1", "NOT");
        refused("21: NOT", ENDLESS, "between 0 0 0", "NOT");
        refused("21: NOT ahead of UNKNOWN", ENDLESS, "between -1 0 0", "NOT");
        refused("21: NOT ahead of UNKNOWN", ENDLESS, "between 0 36 0", "NOT");
        refused("21: NOT ahead of OUTSIDE", ENDLESS, "between 0 0 3", "NOT");
        refused("21: NOT ahead of all", ENDLESS, "between -1 -1 -1", "NOT");
        refused("22: NOT", ENDLESS, "find", "NOT");
        refused("23: NOT", ENDLESS, "sums", "NOT");
        refused("23: NOT, x below 0", ENDLESS + "set 0 -1", "sums", "NOT");
        refused("23: NOT, x 0", ENDLESS + "set 0 0 | set 1 0 | set 2 0 | set 3 0", "sums", "NOT");
    }

    private static void shelves() {
        for (String call : new String[] {"shelf N", "lay N", "draw N", "add N", "euler N 0", "euler N 3", "euler N -1", "drop N"}) {
            for (String none : new String[] {"3", "-1", "LEAST", "MOST"}) {
                refused("24 to 29: UNKNOWN", BUSY, call.replace("N", none), "UNKNOWN");
            }
        }
        for (String call : new String[] {"lay 2", "draw 2", "add 2", "euler 2 0", "euler 2 2", "drop 2"}) {
            refused("25 to 29: NULL", BUSY, call, "NULL");
            refused("25 to 29: NULL, dropped", BUSY + "shelf 2 | lay 2 | drop 2", call, "NULL");
        }
        for (String call : new String[] {"draw 1", "add 1", "euler 1 0", "euler 1 2"}) {
            refused("26 to 28: EMPTY", BUSY, call, "EMPTY");
            refused("26 to 28: EMPTY, all drawn", BUSY + "lay 1 | draw 1", call, "EMPTY");
            refused("26 to 28: EMPTY, new again", BUSY + "lay 1 | shelf 1", call, "EMPTY");
        }
        refused("25: ROOM", FULL_SHELF, "lay 0", "ROOM");
        refused("25: UNKNOWN where another is full", FULL_SHELF, "lay 3", "UNKNOWN");
        refused("25: NULL where another is full", FULL_SHELF, "lay 2", "NULL");
        refused("28: OUTSIDE", BUSY, "euler 0 3", "OUTSIDE");
        refused("28: OUTSIDE", BUSY, "euler 0 -1", "OUTSIDE");
        refused("28: OUTSIDE ahead of NULL", BUSY, "euler 2 3", "OUTSIDE");
        refused("28: OUTSIDE ahead of EMPTY", BUSY, "euler 1 -1", "OUTSIDE");
    }

    private static void shelvesOfOtherSize() {
        refused("26: SIZE", OTHER_SIZE, "draw 0", "SIZE");
        refused("27: SIZE", OTHER_SIZE, "add 0", "SIZE");
        refused("27: SIZE ahead of NOT", OTHER_SIZE + "set 1 99 | set 2 99", "add 0", "SIZE");
        refused("28: SIZE", OTHER_SIZE, "euler 0 0", "SIZE");
        refused("28: SIZE", OTHER_SIZE, "euler 0 2", "SIZE");
        refused("28: OUTSIDE ahead of SIZE", OTHER_SIZE, "euler 0 3", "OUTSIDE");
        refused("25: ROOM, of another size", OTHER_SIZE + "lay 0 | lay 0 | set 0 1", "lay 0", "ROOM");
    }

    /** What is told and found changes nothing either, refused or not. */
    private static void questions() {
        C.part("nothing changes by a question");
        String[] calls = {"fault", "arrow 0 0", "arrow 2 1", "point 0 0", "point 3 3", "paths 0 1", "paths 3 3", "turned 1", "root 11 1",
            "place 3 1", "place 11 5", "between 0 11 0", "between 11 0 1", "find", "sums", "euler 0 0", "euler 0 1", "euler 0 2"};
        for (String call : calls) {
            nothingChanged(BUSY, call);
        }
        for (int what = 0; what < 13; what++) {
            nothingChanged(BUSY, "count " + what);
            nothingChanged(ENDLESS, "count " + what);
        }
        nothingChanged(BUSY + "tell \";quiver 6;row 1 2 3 4 5 6\"", "fault");
        nothingChanged(BUSY + "tell \";quiver 6;row 1 2 3 4 5\"", "fault");
    }

    private static void refused(String sentence, String scene, String call, String due) {
        C.part(sentence);
        C.due(call, new Scene().go(null, scene).call(call), Scene.number(due));
        nothingChanged(scene, call);
    }

    private static void nothingChanged(String scene, String call) {
        for (int way = 0; way < WAYS_TO_LOOK; way++) {
            Scene without = new Scene().go(null, scene);
            Scene with = new Scene().go(null, scene);
            int first = with.call(call);
            List<String> due = emptied(without, way);
            List<String> got = emptied(with, way);
            C.due("way " + way + " behind " + call + ": " + got + ", due is " + due, due.equals(got) ? 1 : 0, 1);
            C.due(call + " again", new Scene().go(null, scene + "\n" + call).call(call), first);
        }
    }

    /** Each way takes a new object, since it leaves nothing as it was. */
    private static List<String> emptied(Scene scene, int way) {
        List<String> seen = new ArrayList<>();
        switch (way) {
            case 0:
                lookAtAll(scene, seen);
                break;
            case 1:
                undoAll(scene, seen);
                break;
            case 2:
            case 3:
                goBack(scene, seen, way - 2);
                break;
            case 4:
                drawAll(scene, seen);
                break;
            default:
                doText(scene, seen);
                break;
        }
        return seen;
    }

    private static void see(Scene scene, List<String> seen, String call) {
        seen.add(call + " = " + scene.call(call));
    }

    private static void lookAtAll(Scene scene, List<String> seen) {
        for (int what = 0; what < 13; what++) {
            see(scene, seen, "count " + what);
        }
        seen.add(scene.row());
        seen.add(scene.arrows());
        for (int p = 0; p < 4; p++) {
            see(scene, seen, "point " + p + " 3");
            see(scene, seen, "paths 0 " + p);
            see(scene, seen, "root 3 " + p);
        }
        for (int shelf = 0; shelf < 3; shelf++) {
            see(scene, seen, "euler " + shelf + " 0");
            see(scene, seen, "euler " + shelf + " 1");
        }
        see(scene, seen, "fault");
        see(scene, seen, "find");
        see(scene, seen, "sums");
    }

    private static void undoAll(Scene scene, List<String> seen) {
        for (int i = 0; i < 9; i++) {
            see(scene, seen, "undo");
            seen.add(scene.row());
            seen.add(scene.arrows());
        }
        see(scene, seen, "count 4");
    }

    private static void goBack(Scene scene, List<String> seen, int k) {
        see(scene, seen, "back " + k);
        seen.add(scene.row());
        seen.add(scene.arrows());
        see(scene, seen, "count 11");
        see(scene, seen, "undo");
    }

    /** A ROW of another size can be drawn behind a text alone. */
    private static void drawAll(Scene scene, List<String> seen) {
        drawWhatFits(scene, seen);
        for (int n = 3; n <= 4; n++) {
            scene.go(null, "erase | tell \"quiver " + n + "\" | quiver");
            drawWhatFits(scene, seen);
        }
        for (int shelf = 0; shelf < 3; shelf++) {
            see(scene, seen, "drop " + shelf);
        }
    }

    private static void drawWhatFits(Scene scene, List<String> seen) {
        for (int shelf = 0; shelf < 3; shelf++) {
            for (int i = 0; i < 5; i++) {
                see(scene, seen, "draw " + shelf);
                see(scene, seen, "point 0 0");
                see(scene, seen, "point 1 0");
                see(scene, seen, "point 3 0");
            }
        }
    }

    private static void doText(Scene scene, List<String> seen) {
        see(scene, seen, "fault");
        see(scene, seen, "quiver");
        see(scene, seen, "erase");
        seen.add(scene.row());
        seen.add(scene.arrows());
        see(scene, seen, "count 0");
    }
}

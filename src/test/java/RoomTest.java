import java.lang.management.ManagementFactory;

/** All rows are made by the constructor: the dearest calls make nothing more, and an object is small. */
public final class RoomTest {
    private static final int OBJECTS = 200;

    public static void main(String[] args) {
        busy(new QuiverDesk());
        long start = bytes();
        QuiverDesk[] desks = new QuiverDesk[OBJECTS];
        for (int i = 0; i < OBJECTS; i++) {
            desks[i] = new QuiverDesk();
        }
        long made = (bytes() - start) / OBJECTS;
        start = bytes();
        long answers = 0;
        for (QuiverDesk desk : desks) {
            answers += busy(desk);
        }
        long byCalls = (bytes() - start) / OBJECTS;
        System.out.println("an object takes " + made + " bytes, its calls " + byCalls + " more (" + answers + ")");
        if (made > 32000 || byCalls > 200) {
            System.out.println("that is too much");
            System.exit(1);
        }
    }

    private static long bytes() {
        return ((com.sun.management.ThreadMXBean) ManagementFactory.getThreadMXBean()).getCurrentThreadAllocatedBytes();
    }

    private static long busy(QuiverDesk d) {
        long answers = 0;
        String text = "quiver 6;arrow 0 1;arrow 1 2;arrow 3 2;arrow 4 3;arrow 2 5;row 4 5 6 5 4 5";
        for (int i = 0; i < text.length(); i++) {
            d.write(text.charAt(i));
        }
        d.quiver();
        d.shelf(0);
        for (int i = 0; i < 16; i++) {
            answers += d.turn(5) + d.sums() + d.count(5) + d.find() + d.paths(0, 5) + d.fault() + d.shift(0) + d.shift(1);
            answers += d.lay(0) + d.euler(0, 2) + d.add(0) + d.keep(0) + d.place(7, 4) + d.between(3, 4, 0) + d.undo();
            answers += d.take(35) + d.cut(0) + d.put(0, 1) + d.back(0) + d.set(0, 4) + d.point(3, 3) + d.draw(0);
        }
        return answers;
    }
}

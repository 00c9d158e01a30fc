/** Counts and prints the answers that are not the ones due. */
final class Check {
    private int wrong = 0;
    private int all = 0;
    private String part = "";

    void part(String name) {
        part = name;
    }

    void due(String call, long got, long want) {
        all++;
        if (got != want) {
            wrong++;
            System.out.println(part + ": " + call + " answered " + got + ", due is " + want);
        }
    }

    int wrong() {
        return wrong;
    }

    void end() {
        System.out.println(all + " answers looked at, " + wrong + " not as due");
        if (wrong != 0 || all == 0) {
            System.exit(1);
        }
    }

    /** Writes a text behind what there is; every letter has to be taken. */
    static QuiverDesk told(QuiverDesk desk, String letters) {
        for (int i = 0; i < letters.length(); i++) {
            if (desk.write(letters.charAt(i)) < 0) {
                throw new IllegalStateException("letter " + i + " of " + letters + " is refused");
            }
        }
        return desk;
    }

    /** A new desk with a text done. */
    static QuiverDesk made(String letters) {
        QuiverDesk desk = told(new QuiverDesk(), letters);
        if (desk.quiver() < 1) {
            throw new IllegalStateException("text has a fault: " + letters);
        }
        return desk;
    }
}

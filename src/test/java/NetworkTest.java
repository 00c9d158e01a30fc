/** All roots with all that is told of them: every quiver of four points or fewer, six points in many shapes. */
public final class NetworkTest {
    private static final Check C = new Check();

    public static void main(String[] args) {
        for (int n = 1; n <= 4; n++) {
            everyQuiver(n);
        }
        int[][][] shapes = {
            {{0, 1}, {1, 2}, {2, 3}, {3, 4}, {4, 5}},
            {{0, 1}, {1, 2}, {2, 3}, {3, 4}, {3, 5}},
            {{0, 1}, {1, 2}, {2, 3}, {3, 4}, {2, 5}},
            {{0, 2}, {1, 2}, {2, 3}, {3, 4}, {3, 5}},
            {{0, 1}, {1, 2}, {1, 3}, {4, 5}},
            {{0, 1}, {1, 2}, {2, 3}, {2, 4}},
            {{0, 1}, {2, 3}, {4, 5}},
            {{0, 1}, {1, 2}, {3, 4}, {4, 5}}};
        int[][] names = {{0, 1, 2, 3, 4, 5}, {3, 5, 0, 2, 1, 4}, {5, 4, 3, 2, 1, 0}};
        for (int[][] shape : shapes) {
            for (int[] name : names) {
                everySense(shape, name);
            }
        }
        C.end();
    }

    /** Each pair is joined not at all, one way or the other; what leads round is left out by put itself. */
    private static void everyQuiver(int n) {
        int pairs = n * (n - 1) / 2;
        int all = (int) Math.round(Math.pow(3, pairs));
        for (int code = 0; code < all; code++) {
            QuiverDesk desk = Check.made("quiver " + n);
            Model model = new Model();
            model.now.n = n;
            model.now.x = new int[n];
            int left = code;
            for (int p = 0; p < n; p++) {
                for (int q = 0; q < p; q++, left /= 3) {
                    if (left % 3 > 0) {
                        int u = left % 3 == 1 ? p : q;
                        C.due("put", desk.put(u, p + q - u), model.put(u, p + q - u));
                    }
                }
            }
            C.part("quiver " + n + ", code " + code);
            compare(desk, model);
        }
    }

    private static void everySense(int[][] shape, int[] name) {
        for (int code = 0; code < 1 << shape.length; code++) {
            QuiverDesk desk = Check.made("quiver 6");
            Model model = new Model();
            model.now.n = 6;
            model.now.x = new int[6];
            for (int a = 0; a < shape.length; a++) {
                int side = code >> a & 1;
                int u = name[shape[a][side]];
                int v = name[shape[a][1 - side]];
                C.due("put", desk.put(u, v), model.put(u, v));
            }
            C.part("shape of " + shape.length + " arrows, code " + code);
            compare(desk, model);
        }
    }

    private static void compare(QuiverDesk desk, Model model) {
        for (int what = 0; what < 13; what++) {
            C.due("count(" + what + ")", desk.count(what), model.count(what));
        }
        int size = Math.max(1, model.count(4));
        for (int r = 0; r < size; r++) {
            for (int p = 0; p < model.now.n; p++) {
                C.due("root(" + r + ", " + p + ")", desk.root(r, p), model.root(r, p));
            }
            for (int what = 0; what < 6; what++) {
                C.due("place(" + r + ", " + what + ")", desk.place(r, what), model.place(r, what));
            }
            int s = (7 * r + 3) % size;
            C.due("between", desk.between(r, s, 2), model.between(r, s, 2));
            C.due("between", desk.between(s, r, 0), model.between(s, r, 0));
            C.due("between", desk.between(r, r, 1), model.between(r, r, 1));
        }
    }
}

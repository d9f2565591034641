/** Promises 8 to 12: the mesh. */
public final class MeshTest {
    private static final Due DUE = new Due("MeshTest");

    public static void main(String[] args) {
        label();
        place();
        next();
        nextEverywhere();
        far();
        holds();
        DUE.end();
    }

    private static SnakeMesh sized(int w, int h) {
        SnakeMesh x = new SnakeMesh();
        x.mesh(w, h);
        return x;
    }

    private static void label() {
        SnakeMesh x = sized(3, 5);
        int[][] rows = {{0, 1, 2}, {5, 4, 3}, {6, 7, 8}, {11, 10, 9}, {12, 13, 14}};
        for (int b = 0; b < rows.length; b++) {
            for (int a = 0; a < rows[b].length; a++) {
                DUE.is("8: label(" + a + ", " + b + ")", x.label(a, b), rows[b][a]);
            }
        }
        int[][] bad = {{3, 0}, {0, 5}, {-1, 0}, {0, -1}, {Integer.MIN_VALUE, Integer.MAX_VALUE}};
        for (int[] n : bad) {
            DUE.is("8: label(" + n[0] + ", " + n[1] + ")", x.label(n[0], n[1]), -2);
        }
        DUE.is("8: refused getters count", x.told(0), bad.length);
        DUE.is("8: getters leave no state", x.told(4), 1);
    }

    private static void place() {
        SnakeMesh x = sized(3, 2);
        int[] places = {0, 10, 20, 21, 11, 1};
        for (int label = 0; label < places.length; label++) {
            DUE.is("9: place(" + label + ")", x.place(label), places[label]);
        }
        int[] bad = {6, -1, 36, Integer.MAX_VALUE, Integer.MIN_VALUE};
        for (int label : bad) {
            DUE.is("9: place(" + label + ")", x.place(label), -2);
        }
        SnakeMesh big = sized(6, 6);
        for (int label = 0; label < 36; label++) {
            int p = big.place(label);
            DUE.is("9: label of place " + label, big.label(p / 10, p % 10), label);
        }
    }

    private static void next() {
        SnakeMesh x = new SnakeMesh();
        DUE.is("10: up at once", x.next(0, 0, 3, 3), 1);
        DUE.is("10: up along the row", x.next(1, 0, 2, 1), 20);
        DUE.is("10: up would be too far", x.next(0, 0, 1, 1), 10);
        DUE.is("10: its own label is fine", x.next(0, 0, 0, 1), 1);
        DUE.is("10: down at once", x.next(3, 3, 0, 0), 32);
        DUE.is("10: down along the row", x.next(1, 1, 2, 0), 21);
        DUE.is("10: down to the goal itself", x.next(1, 1, 1, 0), 10);
        int[][] bad = {{0, 0, 0, 0}, {3, 3, 3, 3}, {4, 0, 0, 0}, {0, 4, 0, 0}, {0, 0, 4, 0}, {0, 0, 0, 4}, {-1, 0, 1, 1},
            {0, 0, 1, -1}};
        for (int[] n : bad) {
            DUE.is("10: next(" + n[0] + ", " + n[1] + ", " + n[2] + ", " + n[3] + ")", x.next(n[0], n[1], n[2], n[3]), -2);
        }
        DUE.is("10: refused", x.told(0), bad.length);
    }

    /** Each NEXT stands beside, on the goal's side, and nothing beside fits better. */
    private static void nextEverywhere() {
        for (int w = 2; w <= 6; w++) {
            for (int h = 2; h <= 6; h++) {
                for (int u = 0; u < w * h; u++) {
                    for (int v = 0; v < w * h; v++) {
                        if (u != v) {
                            // A new object each time: none is promised for more than 512 calls.
                            nextFits(sized(w, h), u, v);
                        }
                    }
                }
            }
        }
    }

    private static void nextFits(SnakeMesh x, int u, int v) {
        int from = x.place(u);
        int to = x.place(v);
        int best = v > u ? -1 : 1000;
        for (int label = 0; label < x.count(0) * x.count(1); label++) {
            int p = x.place(label);
            boolean beside = Math.abs(p / 10 - from / 10) + Math.abs(p % 10 - from % 10) == 1;
            if (beside && v > u && label <= v) {
                best = Math.max(best, label);
            }
            if (beside && v < u && label >= v) {
                best = Math.min(best, label);
            }
        }
        DUE.is("10: next of labels " + u + ", " + v, x.next(from / 10, from % 10, to / 10, to % 10), x.place(best));
    }

    private static void far() {
        SnakeMesh x = new SnakeMesh();
        DUE.is("11: alike", x.far(2, 1, 2, 1), 0);
        DUE.is("11: beside", x.far(0, 0, 0, 1), 1);
        DUE.is("11: 0, 0 to 1, 1", x.far(0, 0, 1, 1), 2);
        DUE.is("11: corner to corner", x.far(0, 0, 3, 3), 6);
        DUE.is("11: and back", x.far(3, 3, 0, 0), 6);
        DUE.is("11: 3, 0 to 0, 2", x.far(3, 0, 0, 2), 5);
        SnakeMesh y = sized(6, 6);
        DUE.is("11: 6 by 6", y.far(0, 0, 5, 5), 10);
        int[][] bad = {{4, 0, 0, 0}, {0, 4, 0, 0}, {0, 0, 4, 0}, {0, 0, 0, 4}, {-1, -1, -1, -1}};
        for (int[] n : bad) {
            DUE.is("11: far(" + n[0] + ", " + n[1] + ", " + n[2] + ", " + n[3] + ")", x.far(n[0], n[1], n[2], n[3]), -2);
        }
        DUE.is("11: refused", x.told(0), bad.length);
    }

    private static void holds() {
        SnakeMesh x = new SnakeMesh();
        x.message(0, 0, 1);
        x.message(1, 1, 2);
        x.goal(1, 3, 1);
        x.goal(1, 1, 3);
        DUE.is("12: none yet", x.holds(1, 1, 1), -1);
        x.steps(1);
        DUE.is("12: side 0", x.holds(1, 1, 1), 2);
        DUE.is("12: side 1", x.holds(1, 1, 0), 3);
        DUE.is("12: not the way back", x.holds(2, 1, 2), -1);
        x.steps(1);
        DUE.is("12: both of length 2", x.holds(1, 1, 0), 3);
        DUE.is("12: the second one", x.holds(2, 1, 0), 3);
        x.steps(1);
        DUE.is("12: left behind", x.holds(1, 1, 0), -1);
        DUE.is("12: yet held", x.holds(2, 1, 0), 3);
        int[][] bad = {{0, 0, 2}, {0, 0, 3}, {3, 3, 0}, {3, 3, 1}, {0, 0, 4}, {0, 0, -1}, {4, 0, 2}, {0, -1, 1}};
        for (int[] n : bad) {
            DUE.is("12: holds(" + n[0] + ", " + n[1] + ", " + n[2] + ")", x.holds(n[0], n[1], n[2]), -2);
        }
        DUE.is("12: refused", x.told(0), bad.length);
    }
}

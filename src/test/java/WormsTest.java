/** Promises 13 to 18: worms. */
public final class WormsTest {
    private static final Due DUE = new Due("WormsTest");

    public static void main(String[] args) {
        worm();
        wormBad();
        way();
        goalAt();
        of();
        when();
        whenLate();
        count();
        DUE.end();
    }

    /** A message of 1, 1 with two goals above it and two below. */
    private static SnakeMesh four() {
        SnakeMesh x = new SnakeMesh();
        x.message(1, 1, 2);
        x.goal(0, 3, 2);
        x.goal(0, 0, 0);
        x.goal(0, 1, 3);
        x.goal(0, 3, 0);
        return x;
    }

    private static void facts(String at, SnakeMesh x, int i, int s, int... due) {
        for (int what = 0; what < due.length; what++) {
            DUE.is("13: " + at + ", worm(" + i + ", " + s + ", " + what + ")", x.worm(i, s, what), due[what]);
        }
    }

    private static void worm() {
        SnakeMesh x = four();
        facts("at first", x, 0, 0, 2, 6, 0, 11, 0, 0, 0, 0, 0);
        facts("at first", x, 0, 1, 2, 6, 0, 11, 0, 0, 0, 0, 0);
        x.turns(1, 1, 1);
        x.turns(3, 2, 1);
        x.turns(1, 1, 3);
        facts("down", x, 0, 0, 2, 6, 0, 11, 0, 0, 0, 0, 2);
        x.steps(2);
        facts("waits", x, 0, 0, 2, 6, 0, 11, 0, 2, 0, 0, 2);
        facts("goes", x, 0, 1, 2, 6, 2, 31, 0, 0, 0, 2, 0);
        x.steps(1);
        facts("first goal", x, 0, 1, 2, 6, 3, 30, 1, 0, 0, 2, 0);
        x.steps(3);
        facts("last goal", x, 0, 1, 2, 6, 6, 0, 2, 0, 0, 2, 0);
        x.steps(1);
        facts("coming in", x, 0, 1, 2, 6, 7, 0, 2, 0, 0, 1, 0);
        x.steps(1);
        facts("done", x, 0, 1, 2, 6, 8, 0, 2, 0, 1, 0, 0);
        SnakeMesh y = new SnakeMesh();
        y.message(2, 3, 9);
        facts("without goals", y, 0, 0, 0, 0, 0, 23, 0, 0, 1, 0, 0);
        y.goal(0, 1, 3);
        y.steps(5);
        facts("longer than its way", y, 0, 0, 1, 1, 5, 13, 1, 0, 0, 1, 0);
        facts("no goals below", y, 0, 1, 0, 0, 0, 23, 0, 0, 1, 0, 0);
        y.steps(5);
        facts("longer than its way, done", y, 0, 0, 1, 1, 10, 13, 1, 0, 1, 0, 0);
    }

    private static void wormBad() {
        SnakeMesh x = four();
        int[][] bad = {{-1, 0, 0}, {1, 0, 0}, {0, -1, 0}, {0, 2, 0}, {0, 0, -1}, {0, 0, 9}, {Integer.MAX_VALUE, 0, 0}};
        for (int[] n : bad) {
            DUE.is("13: worm(" + n[0] + ", " + n[1] + ", " + n[2] + ")", x.worm(n[0], n[1], n[2]), -2);
        }
        DUE.is("13: refused", x.told(0), bad.length);
    }

    private static void way() {
        SnakeMesh x = four();
        int[] up = {11, 12, 22, 32, 33, 23, 13, -1};
        int[] down = {11, 21, 31, 30, 20, 10, 0, -1};
        for (int k = 0; k < up.length; k++) {
            DUE.is("14: way(0, 0, " + k + ")", x.way(0, 0, k), up[k]);
            DUE.is("14: way(0, 1, " + k + ")", x.way(0, 1, k), down[k]);
        }
        DUE.is("14: far behind", x.way(0, 0, Integer.MAX_VALUE), -1);
        DUE.is("14: k below 0", x.way(0, 0, -1), -2);
        DUE.is("14: no message", x.way(1, 0, 0), -2);
        DUE.is("14: no side", x.way(0, 2, 0), -2);
        DUE.is("14: side below 0", x.way(0, -1, 0), -2);
        DUE.is("14: refused", x.told(0), 4);
        longestWay();
    }

    private static void longestWay() {
        SnakeMesh x = new SnakeMesh();
        x.mesh(6, 6);
        x.message(0, 0, 1);
        for (int label = 1; label < 36; label++) {
            int p = x.place(label);
            x.goal(0, p / 10, p % 10);
        }
        DUE.is("14: through all places", x.worm(0, 0, 1), 35);
        DUE.is("14: its end", x.way(0, 0, 35), 5);
        DUE.is("14: behind its end", x.way(0, 0, 36), -1);
        DUE.is("14: its last goal", x.goalAt(0, 0, 34), 5);
        DUE.is("14: done in", x.when(0), 36);
    }

    private static void goalAt() {
        SnakeMesh x = four();
        int[] up = {32, 13, -1};
        int[] down = {30, 0, -1};
        for (int k = 0; k < up.length; k++) {
            DUE.is("15: goalAt(0, 0, " + k + ")", x.goalAt(0, 0, k), up[k]);
            DUE.is("15: goalAt(0, 1, " + k + ")", x.goalAt(0, 1, k), down[k]);
        }
        x.steps(8);
        DUE.is("15: as told when it came to it, too", x.goalAt(0, 0, 0), 32);
        DUE.is("15: far behind", x.goalAt(0, 0, Integer.MAX_VALUE), -1);
        DUE.is("15: k below 0", x.goalAt(0, 0, -1), -2);
        DUE.is("15: no message", x.goalAt(-1, 0, 0), -2);
        DUE.is("15: no side", x.goalAt(0, 2, 0), -2);
        DUE.is("15: refused", x.told(0), 3);
    }

    private static void of() {
        SnakeMesh x = four();
        x.message(3, 2, 9);
        int[][] facts = {{1, 1, 2, 4, 12, 10}, {3, 2, 9, 0, 0, 0}};
        for (int i = 0; i < facts.length; i++) {
            for (int what = 0; what < 6; what++) {
                DUE.is("16: of(" + i + ", " + what + ")", x.of(i, what), facts[i][what]);
            }
        }
        DUE.is("16: no message", x.of(2, 0), -2);
        DUE.is("16: message below 0", x.of(-1, 0), -2);
        DUE.is("16: what below 0", x.of(0, -1), -2);
        DUE.is("16: what too great", x.of(0, 6), -2);
        DUE.is("16: refused", x.told(0), 4);
    }

    private static void when() {
        SnakeMesh x = four();
        long old = x.digest();
        DUE.is("17: both sides", x.when(0), 8);
        DUE.is("17: changes nothing", x.digest(), old);
        x.message(0, 0, 9);
        DUE.is("17: without goals", x.when(1), 0);
        x.goal(1, 1, 0);
        DUE.is("17: of its own", x.when(1), 10);
        DUE.is("17: of all", x.when(-1), 10);
        x.steps(8);
        DUE.is("17: done now", x.when(0), 0);
        DUE.is("17: yet", x.when(-1), 2);
        DUE.is("17: no message", x.when(2), -2);
        DUE.is("17: below NONE", x.when(-2), -2);
        DUE.is("17: far below NONE", x.when(Integer.MIN_VALUE), -2);
        x.again();
        x.turns(0, 0, 0);
        DUE.is("17: never", x.when(1), -1);
        DUE.is("17: never all", x.when(-1), -1);
        DUE.is("17: the others are", x.when(0), 8);
    }

    /** Others in the way: each waits for the one ahead of it. */
    private static void whenLate() {
        SnakeMesh x = new SnakeMesh();
        for (int i = 0; i < 5; i++) {
            x.message(0, 0, 9);
            x.goal(i, 1, 0);
        }
        for (int i = 0; i < 5; i++) {
            DUE.is("17: when(" + i + ") behind others", x.when(i), 10 + 9 * i);
        }
        DUE.is("17: the last of all", x.when(-1), 46);
        x.steps(46);
        DUE.is("17: as foretold", x.when(-1), 0);
        DUE.is("17: not earlier", x.back() >= 0 ? x.steps(45) : -9, 1);
    }

    private static void count() {
        SnakeMesh x = four();
        x.message(2, 0, 1);
        x.turns(1, 1, 0);
        x.turns(0, 3, 0);
        x.steps(3);
        long[] counts = {4, 4, 2, 3, 2, 2, 3, 1};
        for (int what = 0; what < counts.length; what++) {
            DUE.is("18: count(" + what + ")", x.count(what), counts[what]);
        }
        x.turns(1, 1, 0);
        x.steps(7);
        DUE.is("18: one side is not done yet", x.count(7), 1);
        x.steps(1);
        DUE.is("18: both sides done", x.count(7), 2);
        DUE.is("18: nothing held", x.count(5), 0);
        DUE.is("18: STEPS", x.count(3), 11);
        DUE.is("18: what below 0", x.count(-1), -2);
        DUE.is("18: what too great", x.count(8), -2);
        DUE.is("18: refused", x.told(0), 2);
    }
}

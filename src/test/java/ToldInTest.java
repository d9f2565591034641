/** Promises 1 to 7: a new object, and what is told in. */
public final class ToldInTest {
    private static final Due DUE = new Due("ToldInTest");

    public static void main(String[] args) {
        newObject();
        mesh();
        message();
        goal();
        turns();
        steps();
        stepsInOrder();
        stepsWait();
        again();
        DUE.end();
    }

    private static void newObject() {
        SnakeMesh x = new SnakeMesh();
        long[] counts = {4, 4, 0, 0, 0, 0, 0, 0};
        for (int what = 0; what < counts.length; what++) {
            DUE.is("1: count(" + what + ")", x.count(what), counts[what]);
        }
        for (int what = 0; what < 5; what++) {
            DUE.is("1: told(" + what + ")", x.told(what), 0);
        }
        DUE.is("1: when(NONE)", x.when(SnakeMesh.NONE), 0);
        DUE.is("1: NONE", SnakeMesh.NONE, -1);
        DUE.is("1: BAD", SnakeMesh.BAD, -2);
        DUE.is("1: NO", SnakeMesh.NO, -3);
        DUE.is("1: FULL", SnakeMesh.FULL, -4);
    }

    private static void mesh() {
        SnakeMesh x = new SnakeMesh();
        x.message(0, 0, 1);
        x.goal(0, 3, 3);
        x.turns(1, 1, 0);
        x.steps(2);
        DUE.is("2: as it was", x.mesh(2, 6), 16);
        long[] counts = {2, 6, 0, 0, 0, 0, 0, 0};
        for (int what = 0; what < counts.length; what++) {
            DUE.is("2: count(" + what + ") of a new mesh", x.count(what), counts[what]);
        }
        DUE.is("2: S", x.told(4), 5);
        DUE.is("2: as it was then", x.mesh(6, 2), 12);
        DUE.is("2: the same size once more", x.mesh(6, 2), 12);
        int[][] bad = {{1, 4}, {4, 1}, {7, 4}, {4, 7}, {0, 0}, {-4, 4}, {Integer.MAX_VALUE, 2}, {2, Integer.MIN_VALUE}};
        for (int[] n : bad) {
            DUE.is("2: mesh(" + n[0] + ", " + n[1] + ")", x.mesh(n[0], n[1]), -2);
        }
        DUE.is("2: refused", x.told(0), bad.length);
        DUE.is("2: width kept", x.count(0), 6);
        x.message(0, 0, 5);
        DUE.is("2: a message behind a new mesh is fresh", x.worm(0, 0, 2), 0);
    }

    private static void message() {
        SnakeMesh x = new SnakeMesh();
        int[][] bad = {{4, 0, 1}, {0, 4, 1}, {-1, 0, 1}, {0, -1, 1}, {0, 0, 0}, {0, 0, 10}, {0, 0, Integer.MIN_VALUE}};
        for (int[] n : bad) {
            DUE.is("3: message(" + n[0] + ", " + n[1] + ", " + n[2] + ")", x.message(n[0], n[1], n[2]), -2);
        }
        DUE.is("3: no state of refused calls", x.told(4), 0);
        for (int i = 0; i < 5; i++) {
            DUE.is("3: number " + i, x.message(i % 4, 2, i == 0 ? 9 : 1), i);
            DUE.is("3: S " + i, x.told(4), i + 1);
        }
        DUE.is("3: length", x.of(0, 2), 9);
        DUE.is("3: no goals", x.of(0, 3), 0);
        DUE.is("3: BAD first", x.message(0, 0, 0), -2);
        DUE.is("3: FULL", x.message(0, 0, 1), -4);
        DUE.is("3: FULL counted", x.told(2), 1);
        DUE.is("3: still 5", x.count(2), 5);
    }

    private static void goal() {
        SnakeMesh x = new SnakeMesh();
        DUE.is("4: no message", x.goal(0, 0, 0), -2);
        x.message(1, 1, 2);
        x.message(0, 0, 1);
        DUE.is("4: first", x.goal(0, 3, 3), 1);
        DUE.is("4: second, below", x.goal(0, 0, 0), 2);
        DUE.is("4: none any more", x.goal(0, 3, 3), 1);
        DUE.is("4: goalAt knows", x.goalAt(0, 0, 0), -1);
        DUE.is("4: S", x.told(4), 5);
        DUE.is("4: its source", x.goal(0, 1, 1), -2);
        DUE.is("4: another's source is fine", x.goal(1, 1, 1), 1);
        DUE.is("4: message below 0", x.goal(-1, 0, 0), -2);
        DUE.is("4: message too great", x.goal(2, 0, 0), -2);
        DUE.is("4: x too great", x.goal(0, 4, 0), -2);
        DUE.is("4: y below 0", x.goal(0, 0, -1), -2);
        x.goal(1, 1, 1);
        x.steps(1);
        DUE.is("4: the other side has moves", x.goal(0, 3, 3), -3);
        DUE.is("4: BAD ahead of NO", x.goal(0, 1, 1), -2);
        DUE.is("4: a message without moves", x.goal(1, 3, 3), 1);
        DUE.is("4: NO counted", x.told(1), 1);
        x.again();
        DUE.is("4: no moves any more", x.goal(0, 3, 3), 2);
        goalAfterWaiting();
    }

    private static void goalAfterWaiting() {
        SnakeMesh x = new SnakeMesh();
        x.message(0, 0, 1);
        x.goal(0, 1, 0);
        x.turns(0, 0, 0);
        x.steps(3);
        DUE.is("4: waited, but no moves", x.goal(0, 1, 0), 0);
        DUE.is("4: waited stays", x.worm(0, 0, 5), 3);
        DUE.is("4: and in all", x.count(6), 3);
        DUE.is("4: done without goals", x.worm(0, 0, 6), 1);
    }

    private static void turns() {
        SnakeMesh x = new SnakeMesh();
        x.mesh(3, 2);
        DUE.is("5: down", x.turns(0, 0, 0), 0);
        DUE.is("5: only one way", x.count(4), 1);
        DUE.is("5: the way back is another", x.turns(1, 0, 2), 0);
        DUE.is("5: two down", x.count(4), 2);
        DUE.is("5: up", x.turns(0, 0, 0), 1);
        DUE.is("5: one down", x.count(4), 1);
        DUE.is("5: S", x.told(4), 4);
        int[][] bad = {{0, 0, 2}, {0, 0, 3}, {2, 1, 0}, {2, 1, 1}, {0, 0, 4}, {0, 0, -1}, {3, 0, 2}, {0, 2, 3}, {-1, 0, 0},
            {0, -1, 1}};
        for (int[] n : bad) {
            DUE.is("5: turns(" + n[0] + ", " + n[1] + ", " + n[2] + ")", x.turns(n[0], n[1], n[2]), -2);
        }
        DUE.is("5: all there are: 14", allTurned(x), 14);
        DUE.is("5: a held channel", heldTurned(), 0);
    }

    private static int allTurned(SnakeMesh x) {
        x.mesh(3, 2);
        for (int a = 0; a < 3; a++) {
            for (int b = 0; b < 2; b++) {
                for (int d = 0; d < 4; d++) {
                    x.turns(a, b, d);
                }
            }
        }
        return x.count(4);
    }

    private static int heldTurned() {
        SnakeMesh x = new SnakeMesh();
        x.message(0, 0, 2);
        x.goal(0, 2, 0);
        x.steps(1);
        x.turns(0, 0, 0);
        DUE.is("5: down and held", x.holds(0, 0, 0), 0);
        return x.steps(3);
    }

    private static void steps() {
        SnakeMesh x = new SnakeMesh();
        int[] bad = {0, -1, 201, Integer.MAX_VALUE, Integer.MIN_VALUE};
        for (int n : bad) {
            DUE.is("6: steps(" + n + ")", x.steps(n), -2);
        }
        DUE.is("6: none counted", x.count(3), 0);
        DUE.is("6: without messages", x.steps(200), 0);
        DUE.is("6: STEPS", x.count(3), 200);
        DUE.is("6: S", x.told(4), 1);
        x.message(0, 0, 2);
        DUE.is("6: a worm without goals is done", x.steps(1), 0);
        x.goal(0, 2, 0);
        DUE.is("6: first of 4", x.steps(1), 1);
        DUE.is("6: holds one", x.worm(0, 0, 7), 1);
        DUE.is("6: third of 4", x.steps(2), 1);
        DUE.is("6: its head stays at the goal", x.worm(0, 0, 3), 20);
        DUE.is("6: m is above n", x.worm(0, 0, 2), 3);
        DUE.is("6: holds one yet", x.worm(0, 0, 7), 1);
        DUE.is("6: done", x.steps(1), 0);
        DUE.is("6: no moves more when done", x.steps(5) + x.worm(0, 0, 2), 4);
        DUE.is("6: STEPS go on", x.count(3), 210);
    }

    /** By messages, side 0 first: what one gives up is free for the next in the same step. */
    private static void stepsInOrder() {
        SnakeMesh x = new SnakeMesh();
        x.message(0, 0, 1);
        x.goal(0, 2, 0);
        x.message(0, 0, 1);
        x.goal(1, 2, 0);
        DUE.is("6: both open", x.steps(1), 2);
        DUE.is("6: the second waits", x.worm(1, 0, 5), 1);
        x.steps(1);
        DUE.is("6: the second follows at once", x.worm(1, 0, 2), 1);
        DUE.is("6: waited no more", x.worm(1, 0, 5), 1);
        SnakeMesh y = new SnakeMesh();
        y.message(1, 0, 1);
        y.message(0, 0, 1);
        y.goal(0, 3, 0);
        y.goal(1, 3, 0);
        y.turns(2, 0, 0);
        y.steps(2);
        y.turns(2, 0, 0);
        y.steps(1);
        DUE.is("6: the first goes on", y.worm(0, 0, 2), 2);
        DUE.is("6: the second takes what it left", y.worm(1, 0, 2), 2);
    }

    private static void stepsWait() {
        SnakeMesh x = new SnakeMesh();
        x.message(0, 0, 3);
        x.goal(0, 3, 0);
        x.turns(1, 0, 0);
        DUE.is("6: stuck", x.steps(150), 1);
        DUE.is("6: moves", x.worm(0, 0, 2), 1);
        DUE.is("6: waited", x.worm(0, 0, 5), 149);
        DUE.is("6: STEPS all the same", x.count(3), 150);
        DUE.is("6: holds while it waits", x.holds(0, 0, 0), 0);
        x.turns(1, 0, 0);
        DUE.is("6: goes on", x.steps(4), 1);
        DUE.is("6: done", x.steps(1), 0);
        DUE.is("6: waited stays", x.worm(0, 0, 5), 149);
    }

    private static void again() {
        SnakeMesh x = new SnakeMesh();
        DUE.is("7: nothing yet", x.again(), 0);
        DUE.is("7: S all the same", x.told(4), 1);
        x.message(0, 0, 3);
        x.goal(0, 3, 0);
        x.turns(1, 0, 0);
        x.steps(7);
        DUE.is("7: STEPS there were", x.again(), 7);
        DUE.is("7: STEPS", x.count(3), 0);
        DUE.is("7: moves", x.worm(0, 0, 2), 0);
        DUE.is("7: waited", x.worm(0, 0, 5), 0);
        DUE.is("7: nothing held", x.count(5), 0);
        DUE.is("7: goals stay", x.of(0, 3), 1);
        DUE.is("7: down stays", x.count(4), 1);
        DUE.is("7: at its source", x.worm(0, 0, 3), 0);
    }
}

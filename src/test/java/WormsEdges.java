/** Promises 13 to 18. */
final class WormsEdges {
    private static Edge edge;

    private WormsEdges() {
    }

    static void run(Edge given) {
        edge = given;
        promise13();
        promise13Most();
        promise14();
        promise15();
        promise16();
        promise17();
        promise17Never();
        promise17RunsNothing();
        promise18();
        promise18Done();
    }

    private static void promise13() {
        edge.within("Promise 13, MESSAGE", Scenes::busy, (x, n) -> x.worm(n, 0, 0), new Edge.Range(0, 1, 2, 0));
        edge.within("Promise 13, SIDE", Scenes::busy, (x, n) -> x.worm(0, n, 1), new Edge.Range(0, 4, 1, 2));
        edge.within("Promise 13, what", Scenes::busy, (x, n) -> x.worm(1, 0, n), new Edge.Range(0, 1, 8, 1));
        edge.refused("Promise 13, no MESSAGES at all", Scenes::fresh, x -> x.worm(0, 0, 0), SnakeMesh.BAD);
        edge.within("Promise 13, MESSAGE of five", Scenes::full, (x, n) -> x.worm(n, 1, 6), new Edge.Range(0, 0, 4, 1));
        SnakeMesh x = Scenes.busy();
        edge.are("Promise 13, on its way", Edge.worm(x, 0, 0), 1, 4, 3, 32, 0, 0, 0, 2, 0);
        edge.are("Promise 13, at its last GOAL, not DONE", Edge.worm(x, 0, 1), 1, 2, 3, 0, 1, 0, 0, 1, 0);
        edge.are("Promise 13, WAITING", Edge.worm(x, 1, 0), 1, 4, 2, 20, 0, 1, 0, 2, 1);
        edge.are("Promise 13, without GOALS, its MESSAGE has some", Edge.worm(x, 1, 1), 0, 0, 0, 0, 0, 0, 1, 0, 0);
        edge.are("Promise 13, without GOALS, its MESSAGE has none", Edge.worm(x, 2, 0), 0, 0, 0, 42, 0, 0, 1, 0, 0);
    }

    private static void promise13Most() {
        SnakeMesh x = Scenes.everywhere();
        edge.are("Promise 13, the longest WAY, at first", Edge.worm(x, 0, 0), 35, 35, 0, 0, 0, 0, 0, 0, 0);
        x.steps(43);
        edge.are("Promise 13, the longest WAY, the last but one MOVE", Edge.worm(x, 0, 0), 35, 35, 43, 5, 35, 0, 0, 1, 0);
        x.steps(1);
        edge.are("Promise 13, the longest WAY, DONE", Edge.worm(x, 0, 0), 35, 35, 44, 5, 35, 0, 1, 0, 0);
        SnakeMesh down = Scenes.row(1);
        for (int k = 0; k < 5; k++) {
            down.turns(k, 0, 0);
        }
        edge.is("Promise 13, all its WAY is DOWN", down.worm(0, 0, 8), 5);
        down.turns(0, 1, 0);
        down.turns(1, 0, 2);
        edge.is("Promise 13, what is DOWN elsewhere is not told", down.worm(0, 0, 8), 5);
        down.turns(4, 0, 0);
        edge.is("Promise 13, its last CHANNEL is UP again", down.worm(0, 0, 8), 4);
        down.turns(0, 0, 0);
        edge.is("Promise 13, its first CHANNEL is UP again", down.worm(0, 0, 8), 3);
    }

    private static void promise14() {
        edge.within("Promise 14, MESSAGE", Scenes::busy, (x, n) -> x.way(n, 0, 0), new Edge.Range(0, 11, 2, 42));
        edge.within("Promise 14, SIDE", Scenes::busy, (x, n) -> x.way(0, n, 1), new Edge.Range(0, 12, 1, 10));
        edge.within("Promise 14, k", Scenes::busy, (x, n) -> x.way(0, 0, n), new Edge.Range(0, 11, Integer.MAX_VALUE, -1));
        edge.refused("Promise 14, no MESSAGES at all", Scenes::fresh, x -> x.way(0, 0, 0), SnakeMesh.BAD);
        edge.tells("Promise 14, k is n: the last PLACE", Scenes::busy, x -> x.way(0, 0, 4), 42);
        edge.tells("Promise 14, k is n + 1: not so many", Scenes::busy, x -> x.way(0, 0, 5), -1);
        edge.tells("Promise 14, without GOALS: the SOURCE", Scenes::busy, x -> x.way(2, 1, 0), 42);
        edge.tells("Promise 14, without GOALS: not so many as 1", Scenes::busy, x -> x.way(2, 1, 1), -1);
        edge.refused("Promise 14, without GOALS: k below 0", Scenes::busy, x -> x.way(2, 1, -1), SnakeMesh.BAD);
        edge.tells("Promise 14, the longest one: its last PLACE", Scenes::everywhere, x -> x.way(0, 0, 35), 5);
        edge.tells("Promise 14, the longest one: not so many", Scenes::everywhere, x -> x.way(0, 0, 36), -1);
    }

    private static void promise15() {
        edge.within("Promise 15, MESSAGE", Scenes::busy, (x, n) -> x.goalAt(n, 0, 0), new Edge.Range(0, 42, 2, -1));
        edge.within("Promise 15, SIDE", Scenes::busy, (x, n) -> x.goalAt(0, n, 0), new Edge.Range(0, 42, 1, 0));
        edge.within("Promise 15, k", Scenes::busy, (x, n) -> x.goalAt(0, 0, n), new Edge.Range(0, 42, Integer.MAX_VALUE, -1));
        edge.refused("Promise 15, no MESSAGES at all", Scenes::fresh, x -> x.goalAt(0, 0, 0), SnakeMesh.BAD);
        edge.tells("Promise 15, the first k that is not so many", Scenes::busy, x -> x.goalAt(0, 0, 1), -1);
        edge.tells("Promise 15, without GOALS: not so many as 0", Scenes::busy, x -> x.goalAt(2, 0, 0), -1);
        edge.refused("Promise 15, without GOALS: k below 0", Scenes::busy, x -> x.goalAt(2, 0, -1), SnakeMesh.BAD);
        edge.tells("Promise 15, the most GOALS: the last", Scenes::everywhere, x -> x.goalAt(0, 0, 34), 5);
        edge.tells("Promise 15, the most GOALS: not so many", Scenes::everywhere, x -> x.goalAt(0, 0, 35), -1);
        edge.tells("Promise 15, one that its HEAD came to", Scenes::busy, x -> x.goalAt(0, 1, 0), 0);
        SnakeMesh x = new SnakeMesh();
        x.message(2, 1, 1);
        int[][] goals = {{0, 0}, {3, 3}, {3, 1}, {1, 1}, {0, 3}, {3, 0}};
        for (int[] n : goals) {
            x.goal(0, n[0], n[1]);
        }
        edge.are("Promise 15, rising, however they came", new int[] {x.goalAt(0, 0, 0), x.goalAt(0, 0, 1), x.goalAt(0, 0, 2), x.goalAt(0, 0, 3)},
                11, 33, 3, -1);
        edge.are("Promise 15, falling, however they came", new int[] {x.goalAt(0, 1, 0), x.goalAt(0, 1, 1), x.goalAt(0, 1, 2), x.goalAt(0, 1, 3)},
                31, 30, 0, -1);
    }

    private static void promise16() {
        edge.within("Promise 16, MESSAGE", Scenes::busy, (x, n) -> x.of(n, 0), new Edge.Range(0, 1, 2, 4));
        edge.within("Promise 16, what", Scenes::busy, (x, n) -> x.of(0, n), new Edge.Range(0, 1, 5, 6));
        edge.refused("Promise 16, no MESSAGES at all", Scenes::fresh, x -> x.of(0, 0), SnakeMesh.BAD);
        SnakeMesh x = Scenes.busy();
        edge.are("Promise 16, GOALS on both SIDES", Edge.of(x, 0), 1, 1, 2, 2, 6, 6);
        edge.are("Promise 16, a GOAL on one SIDE", Edge.of(x, 1), 0, 0, 9, 1, 4, 4);
        edge.are("Promise 16, without GOALS", Edge.of(x, 2), 4, 2, 1, 0, 0, 0);
        edge.are("Promise 16, the most GOALS", Edge.of(Scenes.everywhere(), 0), 0, 0, 9, 35, 35, 180);
    }

    private static void promise17() {
        edge.within("Promise 17, MESSAGE, NONE the least", Scenes::busy, (x, n) -> x.when(n), new Edge.Range(-1, -1, 2, 0));
        edge.tells("Promise 17, NONE, when there are no MESSAGES", Scenes::fresh, x -> x.when(-1), 0);
        edge.isBad("Promise 17, when there are no MESSAGES", Scenes::fresh, (x, n) -> x.when(n), 0);
        edge.isBad("Promise 17, when there are no MESSAGES", Scenes::fresh, (x, n) -> x.when(n), -2);
        edge.tells("Promise 17, MESSAGE 0, though another never is", Scenes::busy, x -> x.when(0), 3);
        edge.tells("Promise 17, before any STEP: n and LENGTH", () -> Scenes.row(9), x -> x.when(0), 14);
        edge.tells("Promise 17, LENGTH 1", () -> Scenes.row(1), x -> x.when(0), 6);
        edge.tells("Promise 17, 1 STEP from now", () -> Scenes.rowAfter(9, 13), x -> x.when(0), 1);
        edge.tells("Promise 17, 0: now", () -> Scenes.rowAfter(9, 14), x -> x.when(0), 0);
        edge.tells("Promise 17, 0: long since", () -> Scenes.rowAfter(9, 200), x -> x.when(0), 0);
        edge.tells("Promise 17, of all, now", () -> Scenes.rowAfter(9, 14), x -> x.when(-1), 0);
        edge.tells("Promise 17, WORMS without GOALS alone: 0", () -> withoutGoals(5), x -> x.when(-1), 0);
        edge.tells("Promise 17, the later of both SIDES", WormsEdges::unlikeSides, x -> x.when(0), 4);
        edge.tells("Promise 17, the longest run: the first", WormsEdges::longestRun, x -> x.when(0), 44);
        edge.tells("Promise 17, the longest run: the last", WormsEdges::longestRun, x -> x.when(4), 80);
        edge.tells("Promise 17, the longest run: all", WormsEdges::longestRun, x -> x.when(-1), 80);
        SnakeMesh x = longestRun();
        edge.is("Promise 17, the longest run: 1 is not DONE a STEP before", x.steps(79), 1);
        edge.is("Promise 17, the longest run: a STEP from now", x.when(-1), 1);
        edge.is("Promise 17, the longest run: none is not DONE then", x.steps(1), 0);
    }

    private static SnakeMesh withoutGoals(int many) {
        SnakeMesh x = new SnakeMesh();
        for (int i = 0; i < many; i++) {
            x.message(i % 4, 1, 9);
        }
        return x;
    }

    /** Side 0 with one channel, side 1 with three. */
    private static SnakeMesh unlikeSides() {
        SnakeMesh x = new SnakeMesh();
        x.message(3, 0, 1);
        x.goal(0, 3, 1);
        x.goal(0, 0, 0);
        return x;
    }

    /** Five of the greatest length through all places, one behind the other. */
    private static SnakeMesh longestRun() {
        SnakeMesh x = Scenes.sized(6, 6);
        for (int i = 0; i < 5; i++) {
            x.message(0, 0, 9);
            Scenes.goalsEverywhere(x, i, 1, 35);
        }
        return x;
    }

    /** No run that ends takes 400 steps: only what is down keeps a worm longer, and that for ever. */
    private static void promise17Never() {
        edge.tells("Promise 17, NONE: the first CHANNEL is DOWN", () -> rowWithDown(0), x -> x.when(0), -1);
        edge.tells("Promise 17, NONE: the last CHANNEL is DOWN", () -> rowWithDown(4), x -> x.when(0), -1);
        edge.tells("Promise 17, NONE of all, if one never is", () -> rowWithDown(4), x -> x.when(-1), -1);
        edge.tells("Promise 17, NONE: behind one that never is", WormsEdges::behindStuck, x -> x.when(1), -1);
        edge.tells("Promise 17, a SIDE that is, the other never", WormsEdges::oneSideStuck, x -> x.when(0), -1);
        SnakeMesh x = rowWithDown(2);
        x.steps(200);
        x.steps(200);
        edge.is("Promise 17, NONE: 400 STEPS later, too", x.when(0), -1);
        x.turns(2, 0, 0);
        edge.is("Promise 17, UP again: as far as it has to go yet", x.when(0), 4);
    }

    /** Two behind one another, and two steps done: the second one is to wait once more for the first. */
    private static SnakeMesh behindEachOther() {
        SnakeMesh x = Scenes.row(4);
        x.message(0, 0, 4);
        x.goal(1, 5, 0);
        x.steps(2);
        return x;
    }

    private static void promise17RunsNothing() {
        SnakeMesh twin = behindEachOther();
        twin.steps(1);
        SnakeMesh x = behindEachOther();
        x.when(-1);
        x.steps(1);
        edge.are("Promise 17, a STEP behind it is as if it had not been asked", Edge.worm(x, 1, 0), 1, 5, 0, 0, 0, 3, 0, 0, 0);
        edge.is("Promise 17, all is as if it had not been asked", x.digest(), twin.digest());
    }

    private static SnakeMesh rowWithDown(int k) {
        SnakeMesh x = Scenes.row(1);
        x.turns(k, 0, 0);
        return x;
    }

    private static SnakeMesh behindStuck() {
        SnakeMesh x = rowWithDown(2);
        x.message(0, 0, 1);
        x.goal(1, 2, 0);
        return x;
    }

    private static SnakeMesh oneSideStuck() {
        SnakeMesh x = unlikeSides();
        x.turns(3, 0, 1);
        return x;
    }

    private static void promise18() {
        edge.within("Promise 18, what", Scenes::busy, (x, n) -> x.count(n), new Edge.Range(0, 5, 7, 1));
        edge.within("Promise 18, what of a new object", Scenes::fresh, (x, n) -> x.count(n), new Edge.Range(0, 4, 7, 0));
        edge.are("Promise 18, all of them, W and H unlike", Edge.counts(Scenes.busy()), 5, 3, 3, 3, 1, 5, 1, 1);
        edge.are("Promise 18, the most MESSAGES", Edge.counts(Scenes.full()), 5, 3, 5, 3, 1, 5, 1, 3);
        SnakeMesh x = Scenes.rowAfter(9, 9);
        edge.is("Promise 18, HELD: a whole WAY", x.count(5), 5);
        x.steps(5);
        edge.is("Promise 18, HELD: none when it is DONE", x.count(5), 0);
        SnakeMesh waits = Scenes.sized(6, 2);
        waits.message(1, 0, 1);
        waits.goal(0, 2, 0);
        waits.goal(0, 0, 0);
        waits.message(1, 0, 1);
        waits.goal(1, 2, 0);
        waits.turns(1, 0, 0);
        waits.turns(1, 0, 2);
        waits.steps(2);
        edge.is("Promise 18, WAITED: both SIDES and all MESSAGES", waits.count(6), 6);
    }

    private static void promise18Done() {
        edge.is("Promise 18, DONE: not a STEP before", Scenes.rowAfter(9, 13).count(7), 0);
        edge.is("Promise 18, DONE: by the last STEP", Scenes.rowAfter(9, 14).count(7), 1);
        SnakeMesh x = unlikeSides();
        x.steps(3);
        edge.is("Promise 18, DONE: one SIDE is, the other not", x.count(7), 0);
        x.steps(1);
        edge.is("Promise 18, DONE: both are", x.count(7), 1);
        edge.is("Promise 18, DONE: none is without MESSAGES", new SnakeMesh().count(7), 0);
        edge.is("Promise 18, DONE: those without GOALS are", withoutGoals(5).count(7), 5);
    }
}

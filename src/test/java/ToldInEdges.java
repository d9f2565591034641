/** Promises 1 to 7. */
final class ToldInEdges {
    private static Edge edge;

    private ToldInEdges() {
    }

    static void run(Edge given) {
        edge = given;
        promise1();
        promise2();
        promise3();
        promise4();
        promise4Moves();
        promise5();
        promise6();
        promise6Full();
        promise7();
    }

    private static void promise1() {
        SnakeMesh x = new SnakeMesh();
        edge.are("Promise 1, 4 by 4, no MESSAGES, all else 0", Edge.counts(x), 4, 4, 0, 0, 0, 0, 0, 0);
        edge.are("Promise 1, never refused, THE TEXT empty, no STATES", Edge.told(x), 0, 0, 0, 0, 0);
        edge.refused("Promise 1, no MESSAGE 0", Scenes::fresh, y -> y.of(0, 0), SnakeMesh.BAD);
        edge.tells("Promise 1, the last place is there", Scenes::fresh, y -> y.label(3, 3), 12);
        edge.refused("Promise 1, none beyond it", Scenes::fresh, y -> y.label(4, 3), SnakeMesh.BAD);
        edge.are("Promise 1, the constants", new int[] {SnakeMesh.NONE, SnakeMesh.BAD, SnakeMesh.NO, SnakeMesh.FULL}, -1, -2, -3, -4);
        x.mesh(2, 2);
        edge.is("Promise 1, another object is not touched by it", new SnakeMesh().count(0), 4);
    }

    private static void promise2() {
        edge.withinS("Promise 2, width", Scenes::busy, (x, n) -> x.mesh(n, 4), new Edge.Range(2, 15, 6, 15));
        edge.withinS("Promise 2, height", Scenes::busy, (x, n) -> x.mesh(4, n), new Edge.Range(2, 15, 6, 15));
        edge.withinS("Promise 2, of a new object, both", Scenes::fresh, (x, n) -> x.mesh(n, n), new Edge.Range(2, 16, 6, 16));
        edge.refused("Promise 2, the one too small, the other too great", Scenes::busy, x -> x.mesh(1, 7), SnakeMesh.BAD);
        SnakeMesh x = Scenes.full();
        x.mesh(5, 3);
        edge.are("Promise 2, all UP, no MESSAGES, STEPS 0, of the same size, too", Edge.counts(x), 5, 3, 0, 0, 0, 0, 0, 0);
        edge.is("Promise 2, THE TEXT stays", x.told(3), 120);
        x.mesh(2, 6);
        edge.is("Promise 2, W times H as it was just before", x.mesh(6, 6), 12);
        promise2OneSide();
        x.message(0, 0, 1);
        edge.are("Promise 2, a message in it has nothing of one before", Edge.worm(x, 0, 0), 0, 0, 0, 0, 0, 0, 1, 0, 0);
    }

    /** The labels, and what is there, are those of the new mesh, if W or H alone became other. */
    private static void promise2OneSide() {
        int[][] sizes = {{4, 2, 7, 1}, {4, 6, 23, 5}, {2, 4, 7, 3}, {6, 4, 23, 3}};
        for (int[] n : sizes) {
            String size = "from 4 by 4 to " + n[0] + " by " + n[1];
            Edge.Made made = () -> Scenes.sized(n[0], n[1]);
            edge.tells("Promise 2, the last LABEL, " + size, made, x -> x.place(n[2]), n[3]);
            edge.refused("Promise 2, no LABEL behind it, " + size, made, x -> x.place(n[2] + 1), SnakeMesh.BAD);
            edge.tells("Promise 2, the end of row 1, " + size, made, x -> x.label(0, 1), 2 * n[0] - 1);
            edge.leaves("Promise 2, the last CHANNEL to the right, " + size, made, x -> x.turns(n[0] - 2, n[1] - 1, 0), 0);
            edge.refused("Promise 2, nothing to the right, " + size, made, x -> x.turns(n[0] - 1, n[1] - 1, 0), SnakeMesh.BAD);
            edge.leaves("Promise 2, the last CHANNEL below, " + size, made, x -> x.turns(n[0] - 1, n[1] - 2, 1), 0);
            edge.refused("Promise 2, nothing below, " + size, made, x -> x.turns(n[0] - 1, n[1] - 1, 1), SnakeMesh.BAD);
        }
    }

    private static void promise3() {
        edge.withinS("Promise 3, x", Scenes::busy, (x, n) -> x.message(n, 1, 3), new Edge.Range(0, 3, 4, 3));
        edge.withinS("Promise 3, y", Scenes::busy, (x, n) -> x.message(1, n, 3), new Edge.Range(0, 3, 2, 3));
        edge.withinS("Promise 3, LENGTH", Scenes::busy, (x, n) -> x.message(1, 1, n), new Edge.Range(1, 3, 9, 3));
        edge.leaves("Promise 3, the first is 0", Scenes::fresh, x -> x.message(0, 0, 1), 0);
        edge.leaves("Promise 3, the fifth is 4", () -> withMessages(4), x -> x.message(0, 0, 1), 4);
        edge.refused("Promise 3, FULL: a sixth", () -> withMessages(5), x -> x.message(0, 0, 1), SnakeMesh.FULL);
        edge.refused("Promise 3, FULL among worms that move", Scenes::full, x -> x.message(4, 2, 9), SnakeMesh.FULL);
        edge.leaves("Promise 3, room again in a new mesh", () -> emptied(5), x -> x.message(0, 0, 1), 0);
        edge.leaves("Promise 3, room again behind back()", () -> backFrom(5), x -> x.message(0, 0, 1), 4);
        SnakeMesh x = withMessages(1);
        x.goal(0, 1, 0);
        x.steps(1);
        x.message(3, 3, 9);
        edge.are("Promise 3, a new one, without GOALS", Edge.of(x, 1), 3, 3, 9, 0, 0, 0);
        edge.is("Promise 3, the others stay", x.worm(0, 0, 2), 1);
        edge.is("Promise 3, STEPS stay", x.count(3), 1);
        x.back();
        x.message(2, 2, 1);
        edge.are("Promise 3, in the room of one gone by back()", Edge.of(x, 1), 2, 2, 1, 0, 0, 0);
    }

    private static SnakeMesh withMessages(int many) {
        SnakeMesh x = new SnakeMesh();
        for (int i = 0; i < many; i++) {
            x.message(0, 0, 1);
        }
        return x;
    }

    private static SnakeMesh emptied(int many) {
        SnakeMesh x = withMessages(many);
        x.mesh(4, 4);
        return x;
    }

    private static SnakeMesh backFrom(int many) {
        SnakeMesh x = withMessages(many);
        x.back();
        return x;
    }

    private static void promise4() {
        edge.withinS("Promise 4, MESSAGE", Scenes::still, (x, n) -> x.goal(n, 2, 1), new Edge.Range(0, 3, 2, 1));
        edge.withinS("Promise 4, x", Scenes::still, (x, n) -> x.goal(2, n, 1), new Edge.Range(0, 1, 4, 1));
        edge.withinS("Promise 4, y", Scenes::still, (x, n) -> x.goal(2, 1, n), new Edge.Range(0, 1, 2, 1));
        edge.refused("Promise 4, no MESSAGES at all", Scenes::fresh, x -> x.goal(0, 1, 1), SnakeMesh.BAD);
        edge.refused("Promise 4, its SOURCE", Scenes::still, x -> x.goal(2, 4, 2), SnakeMesh.BAD);
        edge.leaves("Promise 4, the SOURCE of another", Scenes::still, x -> x.goal(2, 1, 1), 1);
        edge.leaves("Promise 4, beside its SOURCE", Scenes::still, x -> x.goal(2, 4, 1), 1);
        edge.leaves("Promise 4, none any more, one stays", Scenes::still, x -> x.goal(0, 4, 2), 1);
        edge.leaves("Promise 4, none any more, the last one", Scenes::still, x -> x.goal(1, 3, 1), 0);
        edge.leaves("Promise 4, the last place that was no GOAL", ToldInEdges::allButOne, x -> x.goal(0, 0, 5), 35);
        edge.leaves("Promise 4, one of all is none any more", Scenes::everywhere, x -> x.goal(0, 0, 5), 34);
        SnakeMesh x = Scenes.still();
        x.goal(0, 4, 2);
        edge.are("Promise 4, what its WORM is then", Edge.worm(x, 0, 0), 0, 0, 0, 11, 0, 0, 1, 0, 0);
        x.goal(0, 4, 2);
        edge.are("Promise 4, and when it is one again", Edge.worm(x, 0, 0), 1, 4, 0, 11, 0, 0, 0, 0, 0);
    }

    private static SnakeMesh allButOne() {
        SnakeMesh x = Scenes.sized(6, 6);
        x.message(0, 0, 9);
        Scenes.goalsEverywhere(x, 0, 1, 34);
        return x;
    }

    private static SnakeMesh oneSideMoves(int x, int y) {
        SnakeMesh made = new SnakeMesh();
        made.message(1, 1, 1);
        made.goal(0, x, y);
        made.steps(1);
        return made;
    }

    private static void promise4Moves() {
        edge.refused("Promise 4, NO: side 0 has one MOVE, a GOAL more above", () -> oneSideMoves(3, 3), x -> x.goal(0, 0, 3), SnakeMesh.NO);
        edge.refused("Promise 4, NO: side 0 has one MOVE, a GOAL below", () -> oneSideMoves(3, 3), x -> x.goal(0, 0, 0), SnakeMesh.NO);
        edge.refused("Promise 4, NO: side 1 has one MOVE, a GOAL above", () -> oneSideMoves(0, 0), x -> x.goal(0, 3, 3), SnakeMesh.NO);
        edge.refused("Promise 4, NO: what is a GOAL stays one", () -> oneSideMoves(0, 0), x -> x.goal(0, 0, 0), SnakeMesh.NO);
        edge.refused("Promise 4, NO: when all are DONE, too", ToldInEdges::oneSideDone, x -> x.goal(0, 3, 3), SnakeMesh.NO);
        edge.leaves("Promise 4, a MESSAGE without MOVES among others", Scenes::busy, x -> x.goal(2, 0, 0), 1);
        edge.leaves("Promise 4, no MOVES any more by again()", ToldInEdges::movedAndAgain, x -> x.goal(0, 3, 3), 2);
        edge.leaves("Promise 4, no MOVES any more by back()", ToldInEdges::movedAndBack, x -> x.goal(0, 3, 3), 2);
        edge.leaves("Promise 4, it WAITED, but has no MOVES", ToldInEdges::waitedOnly, x -> x.goal(0, 3, 3), 2);
    }

    private static SnakeMesh oneSideDone() {
        SnakeMesh x = oneSideMoves(0, 0);
        x.steps(50);
        return x;
    }

    private static SnakeMesh movedAndAgain() {
        SnakeMesh x = oneSideDone();
        x.again();
        return x;
    }

    private static SnakeMesh movedAndBack() {
        SnakeMesh x = oneSideMoves(0, 0);
        x.back();
        return x;
    }

    private static SnakeMesh waitedOnly() {
        SnakeMesh x = new SnakeMesh();
        x.message(0, 0, 1);
        x.goal(0, 1, 0);
        x.turns(0, 0, 0);
        x.steps(3);
        return x;
    }

    private static void promise5() {
        edge.withinS("Promise 5, x", Scenes::busy, (x, n) -> x.turns(n, 0, 1), new Edge.Range(0, 0, 4, 0));
        edge.withinS("Promise 5, y", Scenes::busy, (x, n) -> x.turns(1, n, 0), new Edge.Range(0, 0, 2, 0));
        edge.withinS("Promise 5, DIRECTION", Scenes::busy, (x, n) -> x.turns(2, 1, n), new Edge.Range(0, 0, 3, 0));
        int[][] corners = {{0, 0, 2}, {0, 0, 3}, {4, 0, 0}, {4, 0, 3}, {0, 2, 1}, {0, 2, 2}, {4, 2, 0}, {4, 2, 1}};
        for (int[] n : corners) {
            edge.refused("Promise 5, nothing is there from " + n[0] + ", " + n[1] + " by " + n[2], Scenes::busy,
                    x -> x.turns(n[0], n[1], n[2]), SnakeMesh.BAD);
        }
        edge.leaves("Promise 5, DOWN, if it was UP: 0", Scenes::busy, x -> x.turns(3, 0, 0), 0);
        edge.leaves("Promise 5, else UP: 1", Scenes::busy, x -> x.turns(2, 0, 0), 1);
        edge.leaves("Promise 5, one that is HELD", Scenes::busy, x -> x.turns(1, 2, 0), 0);
        SnakeMesh x = new SnakeMesh();
        edge.is("Promise 5, first", x.turns(0, 0, 0), 0);
        edge.is("Promise 5, second", x.turns(0, 0, 0), 1);
        edge.is("Promise 5, third", x.turns(0, 0, 0), 0);
        edge.is("Promise 5, that one alone is DOWN", x.count(4), 1);
    }

    private static void promise6() {
        edge.withinS("Promise 6, n", Scenes::still, (x, n) -> x.steps(n), new Edge.Range(1, 3, 200, 1));
        edge.withinS("Promise 6, n without MESSAGES", Scenes::fresh, (x, n) -> x.steps(n), new Edge.Range(1, 0, 200, 0));
        edge.is("Promise 6, 1 STEP counts 1", afterSteps(Scenes.fresh(), 1), 1);
        edge.is("Promise 6, 200 STEPS count 200", afterSteps(Scenes.fresh(), 200), 200);
        edge.is("Promise 6, refused STEPS count none", afterSteps(Scenes.fresh(), 201), 0);
        edge.leaves("Promise 6, WORMS without GOALS are not told", Scenes::busy, x -> x.steps(1), 2);
        edge.leaves("Promise 6, one STEP short of DONE", () -> Scenes.rowAfter(9, 12), x -> x.steps(1), 1);
        edge.leaves("Promise 6, DONE by the last STEP", () -> Scenes.rowAfter(9, 13), x -> x.steps(1), 0);
        SnakeMesh x = Scenes.still();
        x.steps(200);
        edge.are("Promise 6, stuck for all but 2 of 200", Edge.worm(x, 1, 0), 1, 4, 2, 20, 0, 198, 0, 2, 1);
        x.steps(200);
        edge.is("Promise 6, it goes on WAITING", x.worm(1, 0, 5), 398);
        SnakeMesh one = Scenes.still();
        for (int k = 0; k < 200; k++) {
            one.steps(1);
        }
        edge.are("Promise 6, 200 STEPS one by one are the same, message 1", Edge.worm(one, 1, 0), 1, 4, 2, 20, 0, 198, 0, 2, 1);
        edge.are("Promise 6, 200 STEPS one by one are the same, message 0", Edge.worm(one, 0, 0), Edge.worm(x, 0, 0));
    }

    /** Five that stand one behind the other for ever, the first at a channel that is down. */
    private static SnakeMesh fiveStuck() {
        SnakeMesh x = Scenes.sized(6, 2);
        for (int i = 0; i < 5; i++) {
            x.message(0, 0, 1);
            x.goal(i, 5, 0);
        }
        x.turns(2, 0, 0);
        return x;
    }

    private static void promise6Full() {
        edge.leaves("Promise 6, the most MESSAGES, all stuck", ToldInEdges::fiveStuck, x -> x.steps(200), 5);
        SnakeMesh x = fiveStuck();
        x.steps(200);
        edge.are("Promise 6, the most MESSAGES, the first WAITED", Edge.worm(x, 0, 0), 1, 5, 2, 20, 0, 198, 0, 1, 1);
        edge.are("Promise 6, the most MESSAGES, the second WAITED", Edge.worm(x, 1, 0), 1, 5, 1, 10, 0, 199, 0, 1, 1);
        edge.are("Promise 6, the most MESSAGES, the last WAITED", Edge.worm(x, 4, 0), 1, 5, 0, 0, 0, 200, 0, 0, 1);
        edge.is("Promise 6, the most MESSAGES, all WAITED", x.count(6), 198 + 199 + 3 * 200);
    }

    private static int afterSteps(SnakeMesh x, int n) {
        x.steps(n);
        return x.count(3);
    }

    private static void promise7() {
        edge.leaves("Promise 7, on a new object", Scenes::fresh, SnakeMesh::again, 0);
        edge.leaves("Promise 7, before any STEP", Scenes::still, SnakeMesh::again, 0);
        edge.leaves("Promise 7, behind 3 STEPS", Scenes::busy, SnakeMesh::again, 3);
        SnakeMesh x = Scenes.busy();
        int[] before = Edge.worm(Scenes.still(), 1, 0);
        x.again();
        edge.are("Promise 7, no MOVES, never WAITED", Edge.worm(x, 1, 0), before);
        edge.are("Promise 7, MESSAGES, what is DOWN and the MESH stay", Edge.counts(x), 5, 3, 3, 0, 1, 0, 0, 1);
        edge.is("Promise 7, once more: 0 STEPS", x.again(), 0);
        SnakeMesh y = new SnakeMesh();
        for (int k = 0; k < 3; k++) {
            y.steps(200);
        }
        edge.is("Promise 7, all STEPS of more than one call", y.again(), 600);
    }
}

/** Promises 8 to 12. */
final class MeshEdges {
    private static final int[][] NOTHING_THERE = {
        {0, 0, 2}, {0, 0, 3}, {4, 0, 0}, {4, 0, 3}, {0, 2, 1}, {0, 2, 2}, {4, 2, 0}, {4, 2, 1}, {2, 0, 3}, {2, 2, 1}, {0, 1, 2}, {4, 1, 0}};
    private static Edge edge;

    private MeshEdges() {
    }

    static void run(Edge given) {
        edge = given;
        promise8();
        promise9();
        promise10();
        promise11();
        promise12();
        promise12Answers();
    }

    private static void promise8() {
        edge.within("Promise 8, x in an odd row", Scenes::busy, (x, n) -> x.label(n, 1), new Edge.Range(0, 9, 4, 5));
        edge.within("Promise 8, x in an even row", Scenes::busy, (x, n) -> x.label(n, 2), new Edge.Range(0, 10, 4, 14));
        edge.within("Promise 8, y at the left", Scenes::busy, (x, n) -> x.label(0, n), new Edge.Range(0, 0, 2, 10));
        edge.within("Promise 8, x of the least mesh", () -> Scenes.sized(2, 2), (x, n) -> x.label(n, 1), new Edge.Range(0, 3, 1, 2));
        edge.within("Promise 8, y of the least mesh", () -> Scenes.sized(2, 2), (x, n) -> x.label(1, n), new Edge.Range(0, 1, 1, 2));
        edge.within("Promise 8, x of the greatest mesh", () -> Scenes.sized(6, 6), (x, n) -> x.label(n, 5), new Edge.Range(0, 35, 5, 30));
        edge.within("Promise 8, y of the greatest mesh", () -> Scenes.sized(6, 6), (x, n) -> x.label(5, n), new Edge.Range(0, 5, 5, 30));
    }

    private static void promise9() {
        edge.within("Promise 9, LABEL", Scenes::busy, (x, n) -> x.place(n), new Edge.Range(0, 0, 14, 42));
        edge.within("Promise 9, LABEL of the least mesh", () -> Scenes.sized(2, 2), (x, n) -> x.place(n), new Edge.Range(0, 0, 3, 1));
        edge.within("Promise 9, LABEL of the greatest mesh", () -> Scenes.sized(6, 6), (x, n) -> x.place(n), new Edge.Range(0, 0, 35, 5));
        edge.tells("Promise 9, the last of row 0", Scenes::busy, x -> x.place(4), 40);
        edge.tells("Promise 9, the first of row 1", Scenes::busy, x -> x.place(5), 41);
        edge.tells("Promise 9, the last of row 1", Scenes::busy, x -> x.place(9), 1);
        edge.tells("Promise 9, the first of row 2", Scenes::busy, x -> x.place(10), 2);
        edge.refused("Promise 9, a LABEL that a greater mesh had", MeshEdges::smaller, x -> x.place(4), SnakeMesh.BAD);
    }

    private static SnakeMesh smaller() {
        SnakeMesh x = Scenes.sized(6, 6);
        x.mesh(2, 2);
        return x;
    }

    private static void promise10() {
        edge.within("Promise 10, a", Scenes::busy, (x, n) -> x.next(n, 1, 2, 0), new Edge.Range(0, 11, 4, 40));
        edge.within("Promise 10, b", Scenes::busy, (x, n) -> x.next(0, n, 2, 0), new Edge.Range(0, 10, 2, 1));
        edge.within("Promise 10, x", Scenes::busy, (x, n) -> x.next(2, 0, n, 2), new Edge.Range(0, 21, 4, 21));
        edge.within("Promise 10, y", Scenes::busy, (x, n) -> x.next(2, 0, 4, n), new Edge.Range(0, 30, 2, 21));
        int[][] alike = {{0, 0}, {4, 0}, {0, 2}, {4, 2}, {2, 1}};
        for (int[] n : alike) {
            edge.refused("Promise 10, alike: " + n[0] + ", " + n[1], Scenes::busy, x -> x.next(n[0], n[1], n[0], n[1]), SnakeMesh.BAD);
        }
        edge.refused("Promise 10, alike, but no place", Scenes::busy, x -> x.next(5, 0, 5, 0), SnakeMesh.BAD);
        edge.tells("Promise 10, x alone is alike", Scenes::busy, x -> x.next(0, 0, 0, 2), 1);
        edge.tells("Promise 10, y alone is alike", Scenes::busy, x -> x.next(0, 0, 4, 0), 10);
    }

    private static void promise11() {
        edge.within("Promise 11, a", Scenes::busy, (x, n) -> x.far(n, 1, 2, 0), new Edge.Range(0, 3, 4, 3));
        edge.within("Promise 11, b", Scenes::busy, (x, n) -> x.far(0, n, 2, 0), new Edge.Range(0, 2, 2, 4));
        edge.within("Promise 11, x", Scenes::busy, (x, n) -> x.far(2, 0, n, 2), new Edge.Range(0, 4, 4, 4));
        edge.within("Promise 11, y", Scenes::busy, (x, n) -> x.far(2, 0, 4, n), new Edge.Range(0, 2, 2, 4));
        edge.tells("Promise 11, alike: 0, at the first place", Scenes::busy, x -> x.far(0, 0, 0, 0), 0);
        edge.tells("Promise 11, alike: 0, at the last place", Scenes::busy, x -> x.far(4, 2, 4, 2), 0);
        edge.refused("Promise 11, alike, but no place by x", Scenes::busy, x -> x.far(5, 0, 5, 0), SnakeMesh.BAD);
        edge.refused("Promise 11, alike, but no place by y", Scenes::busy, x -> x.far(0, 3, 0, 3), SnakeMesh.BAD);
        edge.tells("Promise 11, beside: 1, a LABEL above", Scenes::busy, x -> x.far(0, 0, 0, 1), 1);
        edge.tells("Promise 11, beside: 1, a LABEL below", Scenes::busy, x -> x.far(0, 1, 0, 0), 1);
        edge.tells("Promise 11, the farthest of all meshes, up", () -> Scenes.sized(6, 6), x -> x.far(0, 0, 5, 5), 10);
        edge.tells("Promise 11, the farthest of all meshes, down", () -> Scenes.sized(6, 6), x -> x.far(5, 5, 0, 0), 10);
    }

    private static SnakeMesh twoSteps() {
        SnakeMesh x = Scenes.still();
        x.steps(2);
        return x;
    }

    private static void promise12() {
        edge.within("Promise 12, x", Scenes::busy, (x, n) -> x.holds(n, 0, 1), new Edge.Range(0, -1, 4, -1));
        edge.within("Promise 12, y", Scenes::busy, (x, n) -> x.holds(1, n, 0), new Edge.Range(0, 2, 2, 0));
        edge.within("Promise 12, DIRECTION", MeshEdges::twoSteps, (x, n) -> x.holds(1, 1, n), new Edge.Range(0, -1, 3, 1));
        for (int[] n : NOTHING_THERE) {
            edge.refused("Promise 12, nothing is there from " + n[0] + ", " + n[1] + " by " + n[2], Scenes::busy,
                    x -> x.holds(n[0], n[1], n[2]), SnakeMesh.BAD);
        }
    }

    private static void promise12Answers() {
        edge.tells("Promise 12, NONE: no MESSAGES", Scenes::fresh, x -> x.holds(0, 0, 0), -1);
        edge.tells("Promise 12, NONE: before any MOVES", Scenes::still, x -> x.holds(1, 1, 1), -1);
        edge.tells("Promise 12, the first WORM: 0", MeshEdges::twoSteps, x -> x.holds(1, 1, 1), 0);
        edge.tells("Promise 12, side 1 of it: 1", MeshEdges::twoSteps, x -> x.holds(1, 1, 3), 1);
        edge.tells("Promise 12, the last WORM: 9", MeshEdges::lastWorm, x -> x.holds(3, 3, 3), 9);
        edge.tells("Promise 12, the last but one: 8", MeshEdges::lastWorm, x -> x.holds(3, 3, 2), 8);
        edge.tells("Promise 12, NONE: the most MESSAGES, none HOLDS it", Scenes::full, x -> x.holds(4, 2, 3), -1);
        edge.tells("Promise 12, one that is DOWN and HELD", MeshEdges::downAndHeld, x -> x.holds(1, 1, 1), 0);
        edge.tells("Promise 12, one that is DOWN, waited for", Scenes::busy, x -> x.holds(2, 0, 0), -1);
        edge.tells("Promise 12, NONE: behind again()", MeshEdges::movedAgain, x -> x.holds(1, 1, 1), -1);
        edge.tells("Promise 12, NONE: on a WAY that is DONE", () -> Scenes.rowAfter(2, 7), x -> x.holds(4, 0, 0), -1);
    }

    /** Four messages without goals, and a fifth from 3, 3 with goals on both sides. */
    private static SnakeMesh lastWorm() {
        SnakeMesh x = new SnakeMesh();
        for (int i = 0; i < 5; i++) {
            x.message(3, 3, 1);
        }
        x.goal(4, 0, 0);
        x.goal(4, 0, 3);
        x.steps(1);
        return x;
    }

    private static SnakeMesh downAndHeld() {
        SnakeMesh x = twoSteps();
        x.turns(1, 1, 1);
        return x;
    }

    private static SnakeMesh movedAgain() {
        SnakeMesh x = twoSteps();
        x.again();
        return x;
    }
}

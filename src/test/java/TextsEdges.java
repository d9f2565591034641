/** Promises 19 to 24. */
final class TextsEdges {
    private static final String FULL_TEXT = " ".repeat(118) + "a;";
    private static Edge edge;

    private TextsEdges() {
    }

    static void run(Edge given) {
        edge = given;
        promise19();
        promise20();
        promise21();
        promise21Counts();
        promise22();
        promise23();
        promise24();
        promise24Places();
    }

    private static void typing(String name, Edge.Made made, int c, int answer) {
        edge.changes("Promise 19, " + name, made, x -> x.type(c), answer, 3, 1);
    }

    private static void promise19() {
        typing("byte 0 is right", Scenes::busy, 0, 6);
        typing("byte 127 is right", Scenes::busy, 127, 6);
        int[] bad = {-1, 128, Integer.MIN_VALUE, Integer.MAX_VALUE};
        for (int c : bad) {
            edge.isBad("Promise 19, byte", Scenes::busy, (x, n) -> x.type(n), c);
            edge.isBad("Promise 19, FULL or not, byte", Scenes::full, (x, n) -> x.type(n), c);
        }
        typing("the first", Scenes::fresh, 'a', 1);
        typing("the 119th", () -> Scenes.typed(" ".repeat(118)), 'a', 119);
        typing("the 120th", () -> Scenes.typed(" ".repeat(119)), 'a', 120);
        edge.refused("Promise 19, FULL: the 121st", () -> Scenes.typed(FULL_TEXT), x -> x.type('a'), SnakeMesh.FULL);
        edge.refused("Promise 19, FULL: byte 0, too", () -> Scenes.typed(FULL_TEXT), x -> x.type(0), SnakeMesh.FULL);
        edge.refused("Promise 19, FULL: byte 127, too", () -> Scenes.typed(FULL_TEXT), x -> x.type(127), SnakeMesh.FULL);
        edge.refused("Promise 19, FULL with MESSAGES and STATES", Scenes::full, x -> x.type(';'), SnakeMesh.FULL);
        typing("room again behind clear()", TextsEdges::cleared, 'a', 1);
        SnakeMesh x = Scenes.typed("k1;");
        x.does();
        x.type('a');
        x.type(';');
        edge.is("Promise 19, behind what does() left", x.does(), 2);
        edge.is("Promise 19, behind, not ahead: STEPS are 0 by the last ORDER", x.count(3), 0);
    }

    private static SnakeMesh cleared() {
        SnakeMesh x = Scenes.typed(FULL_TEXT);
        x.clear();
        return x;
    }

    private static void promise20() {
        edge.changes("Promise 20, an empty one: 0", Scenes::fresh, SnakeMesh::clear, 0, 3, 0);
        edge.changes("Promise 20, one byte", () -> Scenes.typed("?"), SnakeMesh::clear, 1, 3, -1);
        edge.changes("Promise 20, a full one", Scenes::full, SnakeMesh::clear, 120, 3, -120);
        edge.changes("Promise 20, twice: 0", TextsEdges::cleared, SnakeMesh::clear, 0, 3, 0);
        SnakeMesh x = Scenes.typed("k1;");
        x.clear();
        edge.is("Promise 20, nothing of it is read any more", x.does(), -10);
        x.type('a');
        edge.is("Promise 20, behind new bytes, too", x.does(), -11);
    }

    private static void promise21() {
        edge.leaves("Promise 21, one ORDER", () -> Scenes.typed("k1;"), SnakeMesh::does, 1);
        edge.leaves("Promise 21, the most ORDERS: 60, one STATE for all", () -> Scenes.typed("a;".repeat(60)), SnakeMesh::does, 60);
        edge.leaves("Promise 21, with 5 STATES, the oldest is lost", Scenes::busy, SnakeMesh::does, 2);
        edge.tells("Promise 21, -10: FAULT 0", Scenes::fresh, SnakeMesh::does, -10);
        edge.tells("Promise 21, -130: FAULT 120, the greatest", () -> Scenes.typed(" ".repeat(120)), SnakeMesh::does, -130);
        edge.tells("Promise 21, -129: FAULT 119, the last byte", () -> Scenes.typed(" ".repeat(119) + "?"), SnakeMesh::does, -129);
        edge.tells("Promise 21, -1000: ORDER 0", () -> Scenes.typed("k0;"), SnakeMesh::does, -1000);
        edge.tells("Promise 21, -1001: ORDER 1", () -> Scenes.typed("k1;k0;"), SnakeMesh::does, -1001);
        edge.tells("Promise 21, -1058: ORDER 58", () -> Scenes.typed("a;".repeat(58) + "k0;"), SnakeMesh::does, -1058);
        SnakeMesh x = Scenes.typed("k2;t0 0 0;");
        edge.is("Promise 21, done", x.does(), 2);
        edge.is("Promise 21, THE TEXT stays", x.told(3), 10);
        edge.is("Promise 21, done once more", x.does(), 2);
        edge.are("Promise 21, what both did", Edge.counts(x), 4, 4, 0, 4, 0, 0, 0, 0);
        edge.is("Promise 21, one STATE each", x.told(4), 2);
        edge.is("Promise 21, one back() takes all ORDERS of one back", x.back() * 10 + x.count(3), 12);
    }

    /** By does() nothing counts, whatever its orders would be refused for. */
    private static void promise21Counts() {
        String[] texts = {"?", "", "k0;", "m0 0 0;", "g0 1 0;", "k1;g0 1 1;", "m0 0 1;m0 0 1;m0 0 1;m0 0 1;m0 0 1;"};
        for (String text : texts) {
            SnakeMesh x = new SnakeMesh();
            x.message(0, 0, 1);
            x.goal(0, 1, 0);
            Due.write(x, text);
            x.does();
            edge.are("Promise 21, nothing counts by '" + text + "'", Edge.told(x), 0, 0, 0, text.length(), text.startsWith("g") ? 3 : 2);
        }
        edge.tells("Promise 21, a FAULT with 5 STATES, none is lost", () -> busyWith("?"), SnakeMesh::does, -10);
        edge.tells("Promise 21, an ORDER refused NO among worms that move", () -> busyWith("k1;g0 2 0;"), SnakeMesh::does, -1001);
        SnakeMesh x = busyWith("w2 2;m0 0 1;g0 1 1;k3;k0;");
        SnakeMesh twin = busyWith("w2 2;m0 0 1;g0 1 1;k3;k0;");
        edge.is("Promise 21, the last ORDER ends all", x.does(), -1004);
        for (int k = 0; k < 5; k++) {
            x.back();
            twin.back();
            edge.is("Promise 21, STATE " + k + " is as it was then", x.digest(), twin.digest());
        }
    }

    private static SnakeMesh busyWith(String text) {
        SnakeMesh x = Scenes.busy();
        Due.write(x, text);
        return x;
    }

    private static void promise22() {
        edge.refused("Promise 22, NO: none", Scenes::fresh, SnakeMesh::back, SnakeMesh.NO);
        edge.refused("Promise 22, NO: none any more", TextsEdges::allBack, SnakeMesh::back, SnakeMesh.NO);
        edge.refused("Promise 22, NO: refused calls and getters left none", TextsEdges::onlyAsked, SnakeMesh::back, SnakeMesh.NO);
        SnakeMesh x = new SnakeMesh();
        x.steps(1);
        edge.is("Promise 22, the only one: 0 can be yet", x.back(), 0);
        edge.is("Promise 22, as it was", x.count(3), 0);
        SnakeMesh y = Scenes.busy();
        int[] can = new int[6];
        for (int k = 0; k < 6; k++) {
            can[k] = y.back();
        }
        edge.are("Promise 22, of 5, then none", can, 4, 3, 2, 1, 0, -3);
        edge.are("Promise 22, what the oldest STATE holds", Edge.counts(y), 5, 3, 1, 0, 0, 0, 0, 0);
        edge.is("Promise 22, and its MESSAGE", y.of(0, 3), 2);
        promise22Runs();
        SnakeMesh grown = Scenes.sized(2, 2);
        grown.mesh(6, 6);
        grown.back();
        edge.is("Promise 22, a greater MESH is gone", grown.label(2, 0), -2);
        edge.is("Promise 22, the LABELS are the smaller one's", grown.label(0, 1), 3);
        SnakeMesh lessened = Scenes.everywhere();
        lessened.mesh(2, 2);
        lessened.back();
        edge.is("Promise 22, the WAYS of a greater MESH are there again", lessened.way(0, 0, 35), 5);
        edge.is("Promise 22, and how long they take", lessened.when(0), 44);
    }

    /** Behind back() the worms go on from where they were, and stand in each other's way as they did. */
    private static void promise22Runs() {
        SnakeMesh twin = Scenes.row(4);
        twin.message(0, 0, 4);
        twin.goal(1, 5, 0);
        twin.steps(2);
        SnakeMesh x = Scenes.row(4);
        x.message(0, 0, 4);
        x.goal(1, 5, 0);
        x.steps(2);
        x.steps(100);
        x.back();
        x.steps(1);
        edge.are("Promise 22, what was HELD then is waited for again", Edge.worm(x, 1, 0), 1, 5, 0, 0, 0, 3, 0, 0, 0);
        x.back();
        edge.is("Promise 22, to and fro, all is the same", x.digest() - twin.digest(), (x.told(4) - twin.told(4)) * Edge.weight(x, 4));
        SnakeMesh free = Scenes.row(4);
        free.steps(2);
        free.back();
        free.message(0, 0, 1);
        free.goal(1, 1, 0);
        free.turns(0, 0, 1);
        free.goal(0, 5, 0);
        free.steps(1);
        edge.is("Promise 22, what is not HELD any more is waited for by none", free.worm(1, 0, 2), 1);
        SnakeMesh full = Scenes.full();
        full.turns(0, 0, 1);
        edge.is("Promise 22, with the most MESSAGES", full.back(), 4);
        edge.are("Promise 22, the most MESSAGES stay", Edge.counts(full), 5, 3, 5, 3, 1, 5, 1, 3);
        edge.is("Promise 22, the first of them has its WAY", full.way(0, 0, 4), 42);
    }

    private static SnakeMesh allBack() {
        SnakeMesh x = new SnakeMesh();
        x.steps(1);
        x.turns(0, 0, 0);
        x.back();
        x.back();
        return x;
    }

    private static SnakeMesh onlyAsked() {
        SnakeMesh x = new SnakeMesh();
        x.mesh(1, 1);
        x.message(0, 0, 0);
        x.goal(0, 0, 0);
        x.turns(0, 0, 4);
        x.steps(0);
        x.label(0, 0);
        x.place(0);
        x.next(0, 0, 1, 1);
        x.far(0, 0, 1, 1);
        x.holds(0, 0, 0);
        x.when(-1);
        x.count(0);
        x.type('a');
        x.does();
        x.told(0);
        x.digest();
        return x;
    }

    private static void promise23() {
        edge.within("Promise 23, what", Scenes::busy, (x, n) -> x.told(n), new Edge.Range(0, 1, 4, 5));
        edge.within("Promise 23, what of a new object", Scenes::fresh, (x, n) -> x.told(n), new Edge.Range(0, 0, 4, 0));
        edge.are("Promise 23, all of them", Edge.told(Scenes.full()), 1, 1, 0, 120, 5);
        SnakeMesh x = Scenes.full();
        x.type('a');
        x.message(0, 0, 1);
        x.goal(0, 0, 2);
        x.told(5);
        x.told(-1);
        x.count(8);
        edge.are("Promise 23, BAD, NO and FULL by themselves", Edge.told(x), 4, 2, 2, 120, 5);
        SnakeMesh y = new SnakeMesh();
        for (int k = 0; k < 300; k++) {
            y.place(-1);
        }
        edge.is("Promise 23, how often has no end", y.told(0), 300);
    }

    /** The digest of values that are all written out. */
    private static long digestOf(int... values) {
        long h = 2806;
        for (int v : values) {
            h = 31 * h + v;
        }
        return h;
    }

    private static SnakeMesh littleRun() {
        SnakeMesh x = Scenes.sized(2, 2);
        x.message(0, 0, 1);
        x.goal(0, 1, 1);
        return x;
    }

    private static void promise24() {
        int[] fresh = new int[5 + 8 + 4 * 16 + 1];
        fresh[5] = 4;
        fresh[6] = 4;
        edge.is("Promise 24, a new object", new SnakeMesh().digest(), digestOf(fresh));
        SnakeMesh down = Scenes.sized(2, 2);
        for (int channel = 0; channel < 16; channel++) {
            down.turns(channel & 1, channel >> 1 & 1, channel >> 2);
        }
        edge.is("Promise 24, all DOWN, 0 where nothing is there", down.digest(), digestOf(8, 0, 0, 0, 5, 2, 2, 0, 0, 8, 0, 0, 0,
                1, 1, 0, 0, 0, 1, 1, 0, 0, 0, 1, 1, 1, 0, 0, 1, 0));
        SnakeMesh moves = littleRun();
        moves.steps(1);
        edge.is("Promise 24, a MESSAGE on its way", moves.digest(), digestOf(0, 0, 0, 0, 4, 2, 2, 1, 1, 0, 1, 0, 0,
                0, 0, 0, 0, 0, 0, 0, 0, 0, 0, 0, 0, 0, 0, 0, 0, 0, 0, 1, 1, 2, 2,
                1, 2, 1, 10, 0, 0, 0, 1, 0, 0, 10, 11, 0, 0, 0, 0, 0, 0, 1, 0, 0, 0, 2));
        SnakeMesh never = littleRun();
        never.turns(0, 0, 0);
        edge.is("Promise 24, when(NONE) is NONE", never.digest(), digestOf(0, 0, 0, 0, 4, 2, 2, 1, 0, 1, 0, 0, 0,
                1, 0, 0, 0, 0, 0, 0, 0, 0, 0, 0, 0, 0, 0, 0, 0, 0, 0, 1, 1, 2, 2,
                1, 2, 0, 0, 0, 0, 0, 0, 1, 0, 10, 11, 0, 0, 0, 0, 0, 0, 1, 0, 0, 0, -1));
        SnakeMesh x = Scenes.full();
        long first = x.digest();
        edge.is("Promise 24, nothing becomes other by it", x.digest(), first);
    }

    /** A channel that goes down makes other its own value, how many are down, and how many states there are. */
    private static void promise24Places() {
        int[][] channels = {{0, 0, 0, 0}, {4, 0, 1, 4}, {4, 1, 3, 5}, {0, 1, 1, 9}, {0, 2, 0, 10}, {4, 2, 3, 14}};
        for (int[] n : channels) {
            SnakeMesh x = Scenes.sized(5, 3);
            long before = x.digest();
            x.turns(n[0], n[1], n[2]);
            long due = Edge.weight(x, 4) + Edge.weight(x, 5 + 4) + Edge.weight(x, 5 + 8 + 4 * n[3] + n[2]);
            edge.is("Promise 24, by LABELS, DIRECTION " + n[2] + " of LABEL " + n[3], x.digest() - before, due);
        }
    }
}

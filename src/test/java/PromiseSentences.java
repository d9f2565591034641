/** Promises 1 to 24, sentence by sentence. */
final class PromiseSentences {
    private static final int BAD = SnakeMesh.BAD, NO = SnakeMesh.NO, FULL = SnakeMesh.FULL;
    private static Sentences doc;

    private PromiseSentences() {
    }

    static void run(Sentences given) {
        doc = given;
        newAndMesh();
        message();
        goal();
        turns();
        stepsAndAgain();
        labelAndPlace();
        nextAndFar();
        holds();
        worm();
        wayAndGoalAt();
        of();
        when();
        count();
        typeAndClear();
        does();
        back();
        told();
        digest();
    }

    /** 5 by 3, a message with goals on both sides and one without, a channel down. */
    private static SnakeMesh made() {
        return doc.by("w5 3;m1 1 2;g0 4 2;g0 0 0;m4 2 9;t2 0 0;");
    }

    /** The same, three steps on. */
    private static SnakeMesh moved() {
        return doc.by("w5 3;m1 1 2;g0 4 2;g0 0 0;m4 2 9;t2 0 0;k3;");
    }

    private static void newAndMesh() {
        doc.heading("## Promise 1: A new object");
        doc.says("`SnakeMesh()`: As told; no MESSAGES.");
        doc.are("counts", Edge.counts(new SnakeMesh()), 4, 4, 0, 0, 0, 0, 0, 0);
        doc.are("told", Edge.told(new SnakeMesh()), 0, 0, 0, 0, 0);
        doc.heading("## Promise 2: mesh");
        doc.says("`int mesh(int w, int h)`: A MESH of w by h PLACES, all CHANNELS UP, no MESSAGES, STEPS 0: W times H as it was.");
        SnakeMesh x = moved();
        doc.is("as it was", x.mesh(6, 2), 15);
        doc.are("counts", Edge.counts(x), 6, 2, 0, 0, 0, 0, 0, 0);
        doc.is("as it was then", x.mesh(2, 3), 12);
        doc.says("S.");
        doc.leavesState(moved(), y -> y.mesh(6, 2));
        doc.says("BAD.");
        doc.refuses(BAD, PromiseSentences::moved, y -> y.mesh(1, 4), y -> y.mesh(4, 1), y -> y.mesh(7, 4), y -> y.mesh(4, 7));
    }

    private static void message() {
        doc.heading("## Promise 3: message");
        doc.says("`int message(int x, int y, int l)`: A new MESSAGE from x, y with LENGTH l, without GOALS: its number.");
        SnakeMesh x = moved();
        doc.is("its number", x.message(3, 1, 7), 2);
        doc.are("it", Edge.of(x, 2), 3, 1, 7, 0, 0, 0);
        doc.says("S.");
        doc.leavesState(moved(), y -> y.message(3, 1, 7));
        doc.says("BAD; FULL: 5.");
        doc.refuses(BAD, PromiseSentences::moved, y -> y.message(5, 0, 1), y -> y.message(0, 3, 1), y -> y.message(-1, 0, 1),
                y -> y.message(0, -1, 1), y -> y.message(0, 0, 0), y -> y.message(0, 0, 10));
        doc.refuses(FULL, () -> doc.by("m0 0 1;m0 0 1;m0 0 1;m0 0 1;m0 0 1;"), y -> y.message(0, 0, 1));
        doc.is("the fifth", doc.by("m0 0 1;m0 0 1;m0 0 1;m0 0 1;").message(0, 0, 1), 4);
    }

    private static void goal() {
        doc.heading("## Promise 4: goal");
        doc.says("`int goal(int i, int x, int y)`: x, y becomes a GOAL of MESSAGE i, or is none any more, if it was: how many it has.");
        SnakeMesh x = made();
        doc.are("one more, none any more, of another", new int[] {x.goal(0, 2, 2), x.goal(0, 0, 0), x.goal(1, 0, 0), x.goal(1, 0, 0)}, 3, 2, 1, 0);
        doc.are("those left", new int[] {x.goalAt(0, 0, 0), x.goalAt(0, 0, 1), x.goalAt(0, 1, 0)}, 22, 42, -1);
        doc.says("S.");
        doc.leavesState(made(), y -> y.goal(0, 2, 2));
        doc.leavesState(made(), y -> y.goal(0, 0, 0));
        doc.says("BAD: its SOURCE, too; NO: one of its WORMS has MOVES.");
        doc.refuses(BAD, PromiseSentences::made, y -> y.goal(0, 1, 1), y -> y.goal(2, 0, 0), y -> y.goal(-1, 0, 0), y -> y.goal(0, 5, 0),
                y -> y.goal(0, 0, 3), y -> y.goal(0, -1, 0), y -> y.goal(0, 0, -1));
        doc.refuses(NO, PromiseSentences::moved, y -> y.goal(0, 2, 2), y -> y.goal(0, 0, 0));
        doc.refuses(NO, () -> doc.by("m1 1 1;g0 0 0;k1;"), y -> y.goal(0, 3, 3));
        doc.refuses(NO, () -> doc.by("m1 1 1;g0 3 3;k1;"), y -> y.goal(0, 0, 0));
        doc.is("another's MOVES", moved().goal(1, 0, 0), 1);
    }

    private static void turns() {
        doc.heading("## Promise 5: turns");
        doc.says("`int turns(int x, int y, int d)`: The CHANNEL from x, y by DIRECTION d is DOWN, if it was UP, else UP: 1 UP, 0.");
        SnakeMesh x = made();
        doc.are("DOWN, UP, and that which was DOWN", new int[] {x.turns(0, 0, 0), x.turns(0, 0, 0), x.turns(2, 0, 0)}, 0, 1, 1);
        doc.is("none is DOWN", x.count(4), 0);
        doc.says("S.");
        doc.leavesState(moved(), y -> y.turns(0, 0, 0));
        doc.says("BAD: nothing is there, too.");
        doc.refuses(BAD, PromiseSentences::moved, y -> y.turns(5, 0, 2), y -> y.turns(0, 3, 3), y -> y.turns(0, 0, -1), y -> y.turns(0, 0, 4),
                y -> y.turns(4, 1, 0), y -> y.turns(2, 2, 1), y -> y.turns(0, 1, 2), y -> y.turns(2, 0, 3));
    }

    private static void stepsAndAgain() {
        doc.heading("## Promise 6: steps");
        doc.says("`int steps(int n)`: n STEPS (1 .. 200): how many WORMS with GOALS are not DONE then.");
        SnakeMesh x = made();
        doc.are("not DONE", new int[] {x.steps(3), x.steps(1), x.steps(1), x.steps(1), x.steps(200)}, 2, 1, 1, 0, 0);
        doc.is("STEPS", x.count(3), 206);
        doc.says("S.");
        doc.leavesState(moved(), y -> y.steps(2));
        doc.says("BAD.");
        doc.refuses(BAD, PromiseSentences::moved, y -> y.steps(0), y -> y.steps(201), y -> y.steps(-1));
        doc.heading("## Promise 7: again");
        doc.says("`int again()`: All WORMS have no MOVES, never WAITED, STEPS are 0: how many STEPS there were.");
        SnakeMesh z = doc.by("m0 0 1;g0 3 0;m0 0 1;g1 3 0;k4;");
        doc.is("there were", z.again(), 4);
        doc.are("counts", Edge.counts(z), 4, 4, 2, 0, 0, 0, 0, 0);
        doc.are("a WORM", Edge.worm(z, 1, 0), 1, 3, 0, 0, 0, 0, 0, 0, 0);
        doc.says("S.");
        doc.leavesState(moved(), SnakeMesh::again);
    }

    private static void labelAndPlace() {
        doc.heading("## Promise 8: label");
        doc.says("`int label(int x, int y)`: LABEL of x, y.");
        SnakeMesh x = moved();
        doc.are("of an even row and an odd one", new int[] {x.label(0, 0), x.label(4, 0), x.label(4, 1), x.label(0, 1), x.label(4, 2)}, 0, 4, 5, 9, 14);
        doc.says("BAD.");
        doc.refuses(BAD, PromiseSentences::moved, y -> y.label(5, 0), y -> y.label(0, 3), y -> y.label(-1, 0), y -> y.label(0, -1));
        doc.heading("## Promise 9: place");
        doc.says("`int place(int label)`: 10 x and y of the PLACE with a LABEL.");
        doc.are("of these LABELS", new int[] {x.place(0), x.place(4), x.place(5), x.place(9), x.place(14)}, 0, 40, 41, 1, 42);
        doc.says("BAD.");
        doc.refuses(BAD, PromiseSentences::moved, y -> y.place(15), y -> y.place(-1));
    }

    private static void nextAndFar() {
        doc.heading("## Promise 10: next");
        doc.says("`int next(int a, int b, int x, int y)`: NEXT from a, b to x, y: 10 times its x, and its y.");
        SnakeMesh x = moved();
        doc.are("up, along, down", new int[] {x.next(2, 0, 0, 2), x.next(0, 0, 2, 1), x.next(2, 2, 0, 0)}, 21, 10, 21);
        doc.says("BAD: alike, too.");
        doc.refuses(BAD, PromiseSentences::moved, y -> y.next(2, 1, 2, 1), y -> y.next(5, 0, 0, 0), y -> y.next(0, 3, 0, 0),
                y -> y.next(0, 0, 5, 0), y -> y.next(0, 0, 0, 3));
        doc.heading("## Promise 11: far");
        doc.says("`int far(int a, int b, int x, int y)`: How many CHANNELS it takes from a, b to x, y from NEXT to NEXT (0: alike).");
        doc.are("these", new int[] {x.far(2, 1, 2, 1), x.far(0, 0, 0, 1), x.far(0, 0, 2, 1), x.far(4, 2, 0, 0)}, 0, 1, 3, 6);
        doc.says("BAD.");
        doc.refuses(BAD, PromiseSentences::moved, y -> y.far(5, 0, 5, 0), y -> y.far(0, 3, 0, 0), y -> y.far(0, 0, 5, 0), y -> y.far(0, 0, 0, 3));
    }

    private static void holds() {
        doc.heading("## Promise 12: holds");
        doc.says("`int holds(int x, int y, int d)`: 2 times the MESSAGE, and the SIDE, of the WORM that HOLDS the CHANNEL from x, y by d; "
                + "NONE: none does.");
        SnakeMesh x = doc.by("m0 0 1;m1 1 2;g1 3 1;g1 1 3;k1;");
        doc.are("SIDE 0, SIDE 1, none", new int[] {x.holds(1, 1, 1), x.holds(1, 1, 0), x.holds(1, 1, 2)}, 2, 3, -1);
        doc.says("BAD, as of turns().");
        doc.refuses(BAD, PromiseSentences::moved, y -> y.holds(5, 0, 2), y -> y.holds(0, 3, 3), y -> y.holds(0, 0, -1), y -> y.holds(0, 0, 4),
                y -> y.holds(4, 1, 0), y -> y.holds(2, 2, 1), y -> y.holds(0, 1, 2), y -> y.holds(2, 0, 3));
    }

    private static void worm() {
        doc.heading("## Promise 13: worm");
        doc.says("`int worm(int i, int s, int what)`: Of the WORM of MESSAGE i, SIDE s: GOALS (what 0), n (1), MOVES (2), 10 x and y of its HEAD "
                + "(3), ARRIVED (4), how often it WAITED (5), DONE (6: 1, 0), how many CHANNELS it HOLDS (7), how many of its WAY are DOWN (8).");
        SnakeMesh x = moved();
        doc.are("of 0, SIDE 0", Edge.worm(x, 0, 0), 1, 4, 3, 32, 0, 0, 0, 2, 0);
        doc.are("of 0, SIDE 1", Edge.worm(x, 0, 1), 1, 2, 3, 0, 1, 0, 0, 1, 0);
        doc.are("of 1, SIDE 0", Edge.worm(x, 1, 0), 0, 0, 0, 42, 0, 0, 1, 0, 0);
        SnakeMesh waits = doc.by("w5 3;m0 0 3;g0 2 0;g0 4 0;t3 0 0;k4;");
        doc.are("that WAITED", Edge.worm(waits, 0, 0), 2, 4, 3, 30, 1, 1, 0, 3, 1);
        doc.says("BAD.");
        doc.refuses(BAD, PromiseSentences::moved, y -> y.worm(-1, 0, 0), y -> y.worm(2, 0, 0), y -> y.worm(0, -1, 0), y -> y.worm(0, 2, 0),
                y -> y.worm(0, 0, -1), y -> y.worm(0, 0, 9));
    }

    private static void wayAndGoalAt() {
        doc.heading("## Promise 14: way");
        doc.says("`int way(int i, int s, int k)`: 10 x and y of the k-th PLACE of its WAY (0: the SOURCE); NONE: not so many.");
        SnakeMesh x = moved();
        doc.are("SIDE 0", new int[] {x.way(0, 0, 0), x.way(0, 0, 1), x.way(0, 0, 2), x.way(0, 0, 3), x.way(0, 0, 4), x.way(0, 0, 5)},
                11, 12, 22, 32, 42, -1);
        doc.are("SIDE 1", new int[] {x.way(0, 1, 0), x.way(0, 1, 1), x.way(0, 1, 2), x.way(0, 1, 3)}, 11, 10, 0, -1);
        doc.says("BAD: k below 0, too.");
        doc.refuses(BAD, PromiseSentences::moved, y -> y.way(0, 0, -1), y -> y.way(-1, 0, 0), y -> y.way(2, 0, 0), y -> y.way(0, -1, 0),
                y -> y.way(0, 2, 0));
        doc.heading("## Promise 15: goalAt");
        doc.says("`int goalAt(int i, int s, int k)`: 10 x and y of its k-th GOAL (0 on) as they are gone through; NONE: not so many.");
        SnakeMesh goals = doc.by("w5 3;m1 1 2;g0 4 2;g0 0 1;g0 0 0;g0 4 1;");
        doc.are("rising", new int[] {goals.goalAt(0, 0, 0), goals.goalAt(0, 0, 1), goals.goalAt(0, 0, 2)}, 1, 42, -1);
        doc.are("falling", new int[] {goals.goalAt(0, 1, 0), goals.goalAt(0, 1, 1), goals.goalAt(0, 1, 2)}, 41, 0, -1);
        doc.says("BAD: k below 0, too.");
        doc.refuses(BAD, PromiseSentences::moved, y -> y.goalAt(0, 0, -1), y -> y.goalAt(-1, 0, 0), y -> y.goalAt(2, 0, 0), y -> y.goalAt(0, -1, 0),
                y -> y.goalAt(0, 2, 0));
    }

    private static void of() {
        doc.heading("## Promise 16: of");
        doc.says("`int of(int i, int what)`: Of MESSAGE i: x, y of the SOURCE (what 0, 1), LENGTH (2), GOALS (3), n of both WORMS together (4), "
                + "the sum of far() from the SOURCE to each GOAL (5).");
        SnakeMesh x = doc.by("w3 3;m0 0 1;m1 0 4;g1 1 2;g1 2 0;g1 0 0;");
        doc.are("without GOALS", Edge.of(x, 0), 0, 0, 1, 0, 0, 0);
        doc.are("n against far()", Edge.of(x, 1), 1, 0, 4, 3, 5, 4);
        doc.are("far() itself", new int[] {x.far(1, 0, 1, 2), x.far(1, 0, 2, 0), x.far(1, 0, 0, 0)}, 2, 1, 1);
        doc.says("BAD.");
        doc.refuses(BAD, PromiseSentences::moved, y -> y.of(-1, 0), y -> y.of(2, 0), y -> y.of(0, -1), y -> y.of(0, 6));
    }

    private static void when() {
        doc.heading("## Promise 17: when");
        doc.says("`int when(int i)`: In how many STEPS from now all WORMS with GOALS of MESSAGE i (NONE: of all MESSAGES) are DONE (0: now); "
                + "NONE: not in 400.");
        SnakeMesh x = doc.by("w5 3;m1 1 2;g0 4 2;g0 0 0;m4 2 9;g1 3 2;m0 0 1;");
        doc.are("each, and all", new int[] {x.when(0), x.when(1), x.when(2), x.when(-1)}, 6, 10, 0, 10);
        x.steps(7);
        doc.are("7 STEPS on", new int[] {x.when(0), x.when(1), x.when(2), x.when(-1)}, 0, 3, 0, 3);
        doc.more(x, "a;t4 2 2;");
        doc.are("never", new int[] {x.when(0), x.when(1), x.when(2), x.when(-1)}, 6, -1, 0, -1);
        doc.says("BAD: i below NONE, too.");
        doc.refuses(BAD, PromiseSentences::moved, y -> y.when(-2), y -> y.when(2));
    }

    private static void count() {
        doc.heading("## Promise 18: count");
        doc.says("`int count(int what)`: W (what 0), H (1), MESSAGES (2), STEPS (3), CHANNELS DOWN (4), CHANNELS that are HELD (5), how often all "
                + "WORMS WAITED (6), MESSAGES both of whose WORMS with GOALS are DONE (7).");
        SnakeMesh x = doc.by("w5 3;m1 1 2;g0 4 2;g0 0 0;m4 2 9;g1 3 2;m0 0 1;t4 2 2;t0 0 0;k3;");
        doc.are("3 STEPS on", Edge.counts(x), 5, 3, 3, 3, 2, 3, 3, 1);
        x.steps(3);
        doc.are("6 STEPS on", Edge.counts(x), 5, 3, 3, 6, 2, 0, 6, 2);
        doc.says("BAD.");
        doc.refuses(BAD, PromiseSentences::moved, y -> y.count(-1), y -> y.count(8));
    }

    private static void typeAndClear() {
        doc.heading("## Promise 19: type");
        doc.says("`int type(int c)`: A byte (0 .. 127) comes behind THE TEXT: how many it has.");
        SnakeMesh x = new SnakeMesh();
        doc.are("bytes", new int[] {x.type('a'), x.type(';'), x.type(0), x.type(127)}, 1, 2, 3, 4);
        doc.is("the third can not stand there", x.does(), -12);
        doc.says("BAD; FULL: 120.");
        doc.refuses(BAD, () -> Scenes.typed("a;"), y -> y.type(-1), y -> y.type(128));
        doc.refuses(FULL, () -> Scenes.typed(" ".repeat(120)), y -> y.type('a'));
        doc.is("the 120th", Scenes.typed(" ".repeat(119)).type('a'), 120);
        doc.heading("## Promise 20: clear");
        doc.says("`int clear()`: THE TEXT is empty: how many it had.");
        doc.are("twice", new int[] {x.clear(), x.clear(), x.told(3), x.does()}, 4, 0, 0, -10);
    }

    private static void does() {
        doc.heading("## Promise 21: does");
        doc.says("`int does()`: ORDERS are done (THE TEXT stays): how many.");
        SnakeMesh x = Scenes.typed("k2;k3;t0 0 0;");
        doc.are("done twice", new int[] {x.does(), x.count(3), x.count(4), x.told(3), x.does(), x.count(3), x.count(4)}, 3, 5, 1, 13, 3, 10, 0);
        doc.says("S (one STATE for all).");
        doc.is("STATES", x.told(4), 2);
        doc.leavesState(Scenes.typed("w3 3;m0 0 1;k5;"), SnakeMesh::does);
        doc.says("-10 less the FAULT (no S);");
        doc.is("FAULT 4", doc.doing(x, "k1; ?"), -14);
        doc.is("FAULT 0", doc.doing(x, ""), -10);
        doc.is("no S", x.told(4), 2);
        doc.says("-1000 less the number (0 on) of the ORDER that ends all (no S).");
        doc.is("ORDER 0", doc.doing(x, "k0;k1;"), -1000);
        doc.is("ORDER 2", doc.doing(x, "k1;k1;k201;"), -1002);
        doc.is("no S", x.told(4), 2);
    }

    private static void back() {
        doc.heading("## Promise 22: back");
        doc.says("`int back()`: A STATE back: how many can be yet.");
        SnakeMesh x = new SnakeMesh();
        x.steps(5);
        x.mesh(2, 6);
        x.message(1, 5, 3);
        doc.are("one back", new int[] {x.back(), x.count(2), x.count(0)}, 2, 0, 2);
        doc.are("two back", new int[] {x.back(), x.count(0), x.count(3)}, 1, 4, 5);
        doc.are("three back", new int[] {x.back(), x.count(3)}, 0, 0);
        doc.says("NO: none.");
        doc.refuses(NO, SnakeMesh::new, SnakeMesh::back);
        doc.is("none any more", x.back(), -3);
    }

    private static void told() {
        doc.heading("## Promise 23: told");
        doc.says("`int told(int what)`: How often refused: BAD (0), NO (1), FULL (2); bytes of THE TEXT (3), STATES (4).");
        SnakeMesh x = Scenes.typed(" ".repeat(120));
        for (int k = 0; k < 3; k++) {
            x.place(-1);
            x.type('a');
        }
        x.back();
        x.back();
        x.steps(1);
        doc.are("all of them", Edge.told(x), 3, 2, 3, 120, 1);
        doc.says("BAD.");
        doc.refuses(BAD, PromiseSentences::moved, y -> y.told(-1), y -> y.told(5));
    }

    private static void digest() {
        doc.heading("## Promise 24: digest");
        doc.says("`long digest()`: h = 2806; then h = 31 h + v for each v: told(0) to told(4); count(0) to count(7); of each PLACE by LABELS "
                + "whether its CHANNELS 0 to 3 are DOWN (1; 0, also where nothing is there); of each MESSAGE of(0) to of(5), of each of its WORMS "
                + "worm(0) to worm(8), all PLACES of its WAY, the SOURCE first; when(NONE).");
        SnakeMesh x = doc.by("w2 2;m1 0 2;g0 0 1;g0 0 0;t1 1 2;m0 1 1;k2;");
        x.type('?');
        x.place(4);
        int[] values = {
            1, 0, 0, 1, 1,
            2, 2, 2, 2, 1, 2, 1, 1,
            0, 0, 0, 0, 0, 0, 0, 0, 0, 0, 1, 0, 0, 0, 0, 0,
            1, 0, 2, 2, 3, 3,
            1, 2, 1, 11, 0, 1, 0, 1, 1, 10, 11, 1,
            1, 1, 2, 0, 1, 0, 0, 1, 0, 10, 0,
            0, 1, 1, 0, 0, 0,
            0, 0, 0, 1, 0, 0, 1, 0, 0, 1,
            0, 0, 0, 1, 0, 0, 1, 0, 0, 1,
            -1};
        long h = 2806;
        for (int v : values) {
            h = 31 * h + v;
        }
        doc.is("all values written out", x.digest(), h);
    }
}

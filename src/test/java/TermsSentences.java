/** The section Terms, sentence by sentence. */
final class TermsSentences {
    private static Sentences doc;

    private TermsSentences() {
    }

    static void run(Sentences given) {
        doc = given;
        doc.heading("## Terms");
        mesh();
        next();
        messages();
        moves();
        aStep();
        text();
        faults();
        states();
        refused();
    }

    static int[] way(SnakeMesh x, int i, int s) {
        int[] places = new int[x.worm(i, s, 1) + 1];
        for (int k = 0; k < places.length; k++) {
            places[k] = x.way(i, s, k);
        }
        return places;
    }

    private static void mesh() {
        doc.says("6 each; 4 by 4 at first), x 0 on, y 0 on.");
        doc.is("6 by 6", new SnakeMesh().mesh(6, 6), 16);
        doc.refuses(SnakeMesh.BAD, SnakeMesh::new, x -> x.mesh(7, 6), x -> x.mesh(6, 7), x -> x.label(-1, 0), x -> x.label(0, -1),
                x -> x.label(4, 0), x -> x.label(0, 4));
        doc.is("from 0, 0", new SnakeMesh().label(0, 0), 0);
        doc.says("LABEL of a PLACE: y W + x, if y is even, else y W + W - 1 - x.");
        for (int w = 2; w <= 6; w++) {
            for (int h = 2; h <= 6; h++) {
                SnakeMesh x = doc.by("w" + w + " " + h + ";");
                for (int k = 0; k < w * h; k++) {
                    int a = k % w, b = k / w;
                    doc.is("of " + a + ", " + b + " in " + w + " by " + h, x.label(a, b), b % 2 == 0 ? b * w + a : b * w + w - 1 - a);
                }
            }
        }
        doc.says("BESIDE a PLACE: by DIRECTION 0 x + 1, 1 y + 1, 2 x - 1, 3 y - 1 (as far as they are there); a CHANNEL leads from each "
                + "PLACE to each BESIDE it, UP (at first) or DOWN.");
        int[][] beside = {{2, 1, 1}, {1, 2, 0}, {0, 1, 0}, {1, 0, 1}};
        for (int d = 0; d < 4; d++) {
            SnakeMesh x = doc.by("w3 3;m1 1 1;g0 " + beside[d][0] + " " + beside[d][1] + ";k1;");
            doc.is("the way there HOLDS the CHANNEL by " + d, x.holds(1, 1, d), beside[d][2]);
            doc.is("and is at its end", x.worm(0, beside[d][2], 3), 10 * beside[d][0] + beside[d][1]);
            doc.is("it was UP", x.turns(1, 1, d), 0);
            doc.is("and is DOWN", x.turns(1, 1, d), 1);
        }
        SnakeMesh x = new SnakeMesh();
        int there = 0;
        for (int k = 0; k < 64; k++) {
            there += x.turns(k % 4, k / 4 % 4, k / 16) == 0 ? 1 : 0;
        }
        doc.is("as far as they are there", there, 48);
    }

    private static void next() {
        doc.says("NEXT from a PLACE u to another one v: if v's LABEL is above u's, of the PLACES BESIDE u that with the greatest LABEL "
                + "that is no more than v's; else that with the least LABEL that is no less than v's.");
        SnakeMesh x = new SnakeMesh();
        doc.is("from 1 to 5, beside are 0, 2, 6", x.next(1, 0, 2, 1), 20);
        doc.is("from 1 to 6, beside are 0, 2, 6", x.next(1, 0, 1, 1), 11);
        doc.is("from 1 to 15, beside are 0, 2, 6", x.next(1, 0, 0, 3), 11);
        doc.is("from 10 to 1, beside are 5, 9, 11, 13", x.next(2, 2, 1, 0), 21);
        doc.is("from 10 to 5, beside are 5, 9, 11, 13", x.next(2, 2, 2, 1), 21);
        doc.is("from 10 to 6, beside are 5, 9, 11, 13", x.next(2, 2, 1, 1), 12);
        doc.is("from 5 to 3, beside are 2, 4, 6, 10", x.next(2, 1, 3, 0), 31);
    }

    private static void messages() {
        doc.says("======== 2 MESSAGES 0 on, as they come (never more than 5), each with a SOURCE, a LENGTH (1 .. 9), GOALS (PLACES, not the "
                + "SOURCE, each once).");
        SnakeMesh x = new SnakeMesh();
        int[][] given = {{0, 0, 1}, {3, 3, 9}, {2, 1, 4}, {2, 1, 4}, {0, 3, 5}};
        for (int i = 0; i < 5; i++) {
            doc.is("as they come", x.message(given[i][0], given[i][1], given[i][2]), i);
        }
        for (int i = 0; i < 5; i++) {
            doc.are("each with its own", new int[] {x.of(i, 0), x.of(i, 1), x.of(i, 2), x.of(i, 3)}, given[i][0], given[i][1], given[i][2], 0);
        }
        Edge.Made five = () -> doc.by("m0 0 1;m0 0 9;m2 1 4;m2 1 4;m0 3 5;");
        doc.refuses(SnakeMesh.FULL, five, y -> y.message(0, 0, 1));
        doc.refuses(SnakeMesh.BAD, five, y -> y.message(0, 0, 0), y -> y.message(0, 0, 10), y -> y.goal(2, 2, 1));
        doc.are("each once", new int[] {x.goal(2, 0, 0), x.goal(2, 1, 0), x.goal(2, 0, 0)}, 1, 2, 1);
        doc.says("Each has two WORMS: SIDE 0 has the GOALS with LABELS above the SOURCE's, rising, SIDE 1 those below, falling.");
        SnakeMesh y = doc.by("m2 1 1;g0 0 0;g0 0 3;g0 3 1;g0 1 1;");
        doc.are("side 0: 6, 15", new int[] {y.goalAt(0, 0, 0), y.goalAt(0, 0, 1), y.goalAt(0, 0, 2)}, 11, 3, -1);
        doc.are("side 1: 4, 0", new int[] {y.goalAt(0, 1, 0), y.goalAt(0, 1, 1), y.goalAt(0, 1, 2)}, 31, 0, -1);
        doc.says("WAY of a WORM: from the SOURCE from NEXT to NEXT to its first GOAL, from that to the second one, and so on; n CHANNELS "
                + "(0 without GOALS).");
        SnakeMesh z = doc.by("w3 3;m0 0 1;g0 0 2;");
        doc.are("to one GOAL", way(z, 0, 0), 0, 1, 2);
        z.goal(0, 2, 0);
        doc.are("to another one first", way(z, 0, 0), 0, 10, 20, 21, 11, 1, 2);
        doc.is("n", z.worm(0, 0, 1), 6);
        doc.is("n without GOALS", z.worm(0, 1, 1), 0);
        doc.are("the SOURCE without GOALS", way(z, 0, 1), 0);
    }

    /** Of the row of 4 by 2: from 0, 0 with LENGTH 2 to 3, 0, so n is 3. */
    private static void moves() {
        doc.says("MOVES m of a WORM (0 at first): it HOLDS CHANNELS k of its WAY (0 on) with k no less than m - LENGTH, below m (and below n); "
                + "its HEAD is at the PLACE behind m CHANNELS (n at most).");
        int[][] held = {{-1, -1, -1}, {0, -1, -1}, {0, 0, -1}, {-1, 0, 0}, {-1, -1, 0}, {-1, -1, -1}};
        int[] heads = {0, 10, 20, 30, 30, 30};
        int[] done = new int[7];
        int[] arrived = new int[7];
        SnakeMesh x = doc.by("w4 2;m0 0 2;g0 3 0;g0 1 0;");
        for (int m = 0; m < 6; m++) {
            doc.is("m", x.worm(0, 0, 2), m);
            doc.are("HOLDS at m " + m, new int[] {x.holds(0, 0, 0), x.holds(1, 0, 0), x.holds(2, 0, 0)}, held[m]);
            doc.is("HEAD at m " + m, x.worm(0, 0, 3), heads[m]);
            done[m] = x.worm(0, 0, 6);
            arrived[m] = x.worm(0, 0, 4);
            x.steps(1);
        }
        done[6] = x.worm(0, 0, 2);
        doc.says("It is DONE, if m is n + LENGTH (without GOALS at once, m 0).");
        doc.are("DONE by m, and m a STEP behind", done, 0, 0, 0, 0, 0, 1, 5);
        doc.is("without GOALS", x.worm(0, 1, 6), 1);
        doc.is("without GOALS, m", x.worm(0, 1, 2), 0);
        doc.says("ARRIVED: how many of its GOALS its HEAD came to.");
        arrived[6] = x.worm(0, 0, 4);
        doc.are("by m", arrived, 0, 1, 1, 2, 2, 2, 2);
    }

    private static void aStep() {
        doc.says("A STEP: the WORMS that are not DONE, by MESSAGES, SIDE 0 first: if m is below n, and CHANNEL m is DOWN or another WORM HOLDS "
                + "it: it WAITS (once more); else m is 1 more.");
        SnakeMesh x = doc.by("w4 2;m0 0 1;g0 3 0;m0 0 1;g1 3 0;");
        int[][] moved = {{1, 0}, {2, 1}, {3, 2}, {4, 3}, {4, 4}, {4, 4}};
        for (int[] m : moved) {
            x.steps(1);
            doc.are("by MESSAGES", new int[] {x.worm(0, 0, 2), x.worm(1, 0, 2)}, m);
        }
        doc.are("one WAITS", new int[] {x.worm(0, 0, 5), x.worm(1, 0, 5)}, 0, 1);
        SnakeMesh down = doc.by("w4 2;m0 0 1;g0 3 0;t1 0 0;k3;");
        doc.are("DOWN: m, WAITED", new int[] {down.worm(0, 0, 2), down.worm(0, 0, 5)}, 1, 2);
        doc.more(down, "t1 0 0;t0 0 0;k2;t2 0 0;k1;");
        doc.are("m is not below n: m, WAITED", new int[] {down.worm(0, 0, 2), down.worm(0, 0, 5)}, 4, 2);
        SnakeMesh sides = doc.by("m1 1 3;g0 0 0;g0 3 3;k1;");
        doc.are("both SIDES", new int[] {sides.worm(0, 0, 2), sides.worm(0, 1, 2)}, 1, 1);
    }

    private static void text() {
        doc.says("THE TEXT (120 bytes at most) tells ORDERS, each ended by ; : w W H (as mesh), m x y l (as message), g i x y (as goal), "
                + "t x y d (as turns), k n (as steps), a (as again).");
        doc.refuses(SnakeMesh.FULL, () -> Scenes.typed(" ".repeat(120)), x -> x.type(' '));
        SnakeMesh told = doc.by("w5 3;m1 2 9;g0 4 0;t3 2 3;k7;");
        SnakeMesh called = new SnakeMesh();
        called.mesh(5, 3);
        called.message(1, 2, 9);
        called.goal(0, 4, 0);
        called.turns(3, 2, 3);
        called.steps(7);
        same("w, m, g, t, k", told, called);
        doc.more(told, "a;");
        called.again();
        same("a", told, called);
        doc.says("Numbers have 1 to 3 figures; blanks (32) may stand anywhere but within a number, needed only where figures of two numbers "
                + "would else stand side by side.");
        String[] alike = {"m1 1 1;k12;", "m 1 1 1;k12;", "m1  1   1 ;k12;", "  m1 1 1;  k12 ;  ", "m001 01 1;k 012;"};
        for (String text : alike) {
            SnakeMesh x = doc.by(text);
            doc.are("'" + text + "'", new int[] {x.of(0, 0), x.of(0, 1), x.of(0, 2), x.count(3)}, 1, 1, 1, 12);
        }
        doc.is("within a number", doc.doing(new SnakeMesh(), "k1 2;"), -13);
        doc.is("needed", doc.doing(new SnakeMesh(), "w44;"), -13);
        doc.is("no figures", doc.doing(new SnakeMesh(), "k;"), -11);
        doc.says("THE TEXT is read whole first; an ORDER that its call would refuse then ends all, nothing is done.");
        doc.is("whole first", doc.doing(new SnakeMesh(), "k0;?"), -13);
        SnakeMesh ended = doc.by("m0 0 1;g0 3 3;");
        Due.write(ended, "k1;t0 0 0;w2 2;m1 1 1;k0;a;");
        long before = ended.digest();
        doc.is("ends all", ended.does(), -1004);
        doc.is("nothing is done", ended.digest(), before);
        doc.is("by NO", doc.doing(ended, "k1;g0 3 0;"), -1001);
        doc.is("by FULL", doc.doing(ended, "m0 0 1;m0 0 1;m0 0 1;m0 0 1;m0 0 1;"), -1004);
    }

    private static void same(String orders, SnakeMesh one, SnakeMesh other) {
        doc.is(orders, one.digest() - other.digest(), (one.told(4) - other.told(4)) * Edge.weight(one, 4));
    }

    private static void faults() {
        doc.says("FAULT: the place of the first byte that can not stand there (a fourth figure); the TEXT's length, if it ends too early (one "
                + "that is empty or has blanks alone, too).");
        String[] texts = {"k1234;", "k 0001", "x", "a;;", "w4;", "a", "k12", "m1 1 ", "a;k1", "", " ", "     "};
        int[] places = {4, 5, 0, 2, 2, 1, 3, 5, 4, 0, 1, 5};
        for (int k = 0; k < texts.length; k++) {
            doc.is("'" + texts[k] + "'", doc.doing(new SnakeMesh(), texts[k]), -10 - places[k]);
        }
        doc.says("If there is one, nothing is done.");
        SnakeMesh x = new SnakeMesh();
        Due.write(x, "k1;w2 2;m0 0 1;t0 0 0;k");
        long before = x.digest();
        doc.is("a FAULT", x.does(), -33);
        doc.is("nothing is done", x.digest(), before);
    }

    private static void states() {
        doc.says("STATES: each call told S, if it is not refused, leaves one, also if nothing becomes other by it, to go back to (all but THE "
                + "TEXT and how often refused), 5 at most, older ones lost.");
        SnakeMesh x = doc.by("w3 3;m0 0 1;g0 2 2;");
        Due.write(x, "a;");
        doc.leavesState(x, y -> y.mesh(3, 3));
        doc.leavesState(x, y -> y.message(1, 1, 1));
        doc.leavesState(x, y -> y.goal(0, 1, 1));
        doc.leavesState(x, y -> y.turns(1, 1, 0));
        doc.leavesState(x, y -> y.steps(1));
        doc.leavesState(x, SnakeMesh::again);
        doc.leavesState(x, SnakeMesh::does);
        x.steps(0);
        doc.is("a refused one leaves none", x.told(4), 1);
        x.type('k');
        x.back();
        doc.are("THE TEXT and how often refused stay", Edge.told(x), 1, 0, 0, 3, 0);
        int[] states = new int[7];
        for (int k = 0; k < 7; k++) {
            x.steps(k + 1);
            states[k] = x.told(4);
        }
        doc.are("5 at most", states, 1, 2, 3, 4, 5, 5, 5);
        int[] steps = new int[6];
        for (int k = 0; k < 6; k++) {
            x.back();
            steps[k] = x.count(3);
        }
        doc.are("older ones lost", steps, 21, 15, 10, 6, 3, 3);
    }

    private static void refused() {
        doc.says("Refused (any call, getters, too), changing nothing but how often, the first of: BAD -2 a number is not as told; NO -3, "
                + "FULL -4 as told.");
        Edge.Made x = () -> doc.by("m0 0 1;g0 3 3;k1;m1 1 1;m1 1 1;m1 1 1;m1 1 1;");
        doc.refuses(SnakeMesh.BAD, x, y -> y.mesh(0, 4), y -> y.message(0, 0, 0), y -> y.goal(0, 0, 0), y -> y.turns(0, 0, 3), y -> y.steps(201));
        doc.refuses(SnakeMesh.BAD, x, y -> y.label(0, 9), y -> y.place(16), y -> y.next(1, 1, 1, 1), y -> y.far(0, 0, 0, 9), y -> y.holds(0, 0, 9));
        doc.refuses(SnakeMesh.BAD, x, y -> y.worm(0, 0, 9), y -> y.way(0, 2, 0), y -> y.goalAt(5, 0, 0), y -> y.of(0, 6), y -> y.when(-2));
        doc.refuses(SnakeMesh.BAD, x, y -> y.count(8), y -> y.type(128), y -> y.told(5));
        doc.refuses(SnakeMesh.NO, x, y -> y.goal(0, 1, 1));
        doc.refuses(SnakeMesh.FULL, x, y -> y.message(0, 0, 1));
        doc.refuses(SnakeMesh.NO, SnakeMesh::new, SnakeMesh::back);
        doc.says("By does() nothing counts (by type() as by any call).");
        SnakeMesh z = new SnakeMesh();
        doc.doing(z, "k0;");
        doc.doing(z, "m0 0 1;m0 0 1;m0 0 1;m0 0 1;m0 0 1;m0 0 1;");
        doc.doing(z, "m0 0 1;g0 3 3;k1;g0 2 2;");
        doc.doing(z, "?");
        doc.are("by does()", new int[] {z.told(0), z.told(1), z.told(2)}, 0, 0, 0);
        z.type(-1);
        doc.are("by type()", new int[] {z.told(0), z.told(1), z.told(2)}, 1, 0, 0);
    }
}

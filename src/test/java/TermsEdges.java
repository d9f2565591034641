/** The section Terms, but for THE TEXT: places, labels, channels, messages, worms, steps, states. */
final class TermsEdges {
    private static Edge edge;

    private TermsEdges() {
    }

    static void run(Edge given) {
        edge = given;
        sizes();
        labels();
        besides();
        nextEdges();
        messages();
        goals();
        wormWithoutGoals();
        holdsBelowLength();
        holdsFromLengthOn();
        headAndDone();
        lengthOfEach();
        takesNoMoreAtItsEnd();
        arrived();
        waitsForDown();
        waitsForAnother();
        stepOrder();
        statesMany();
        statesOfCalls();
        statesIfNothingBecomesOther();
        refusedFirstOf();
    }

    private static void sizes() {
        edge.are("Terms, MESH: 4 by 4 at first", Edge.counts(new SnakeMesh()), 4, 4, 0, 0, 0, 0, 0, 0);
        int[][] ends = {{2, 2}, {2, 6}, {6, 2}, {6, 6}};
        for (int[] n : ends) {
            SnakeMesh x = Scenes.sized(n[0], n[1]);
            edge.are("Terms, MESH: " + n[0] + " by " + n[1] + " is one", Edge.counts(x), n[0], n[1], 0, 0, 0, 0, 0, 0);
        }
    }

    private static void labels() {
        SnakeMesh least = Scenes.sized(2, 2);
        edge.is("Terms, LABEL: the first place", least.label(0, 0), 0);
        edge.is("Terms, LABEL: the end of row 0", least.label(1, 0), 1);
        edge.is("Terms, LABEL: row 1 begins below the end of row 0", least.label(1, 1), 2);
        edge.is("Terms, LABEL: the last place, if H is even", least.label(0, 1), 3);
        SnakeMesh odd = Scenes.sized(6, 5);
        edge.is("Terms, LABEL: the last place, if H is odd", odd.label(5, 4), 29);
        edge.is("Terms, LABEL: row 2 begins below the end of row 1", odd.label(0, 2), odd.label(0, 1) + 1);
        SnakeMesh most = Scenes.sized(6, 6);
        edge.is("Terms, LABEL: the greatest one", most.label(0, 5), 35);
        edge.is("Terms, LABEL: it is not at the other end of the row", most.label(5, 5), 30);
    }

    /** By each direction the last place where something is there, and the first where nothing is. */
    private static void besides() {
        int[][] there = {{3, 1, 0}, {2, 1, 1}, {1, 1, 2}, {2, 1, 3}};
        int[][] nothing = {{4, 1, 0}, {2, 2, 1}, {0, 1, 2}, {2, 0, 3}};
        for (int d = 0; d < 4; d++) {
            int[] a = there[d];
            int[] b = nothing[d];
            edge.leaves("Terms, BESIDE: the last place with a channel by direction " + d, Scenes::still,
                    x -> x.turns(a[0], a[1], a[2]), 0);
            edge.refused("Terms, BESIDE: the first place with nothing by direction " + d, Scenes::still,
                    x -> x.turns(b[0], b[1], b[2]), SnakeMesh.BAD);
        }
        int[][] sizes = {{2, 2, 8}, {2, 6, 32}, {6, 2, 32}, {5, 3, 44}, {6, 6, 120}};
        for (int[] n : sizes) {
            edge.is("Terms, CHANNEL: from each place to each beside it, " + n[0] + " by " + n[1], turnAll(n[0], n[1]), n[2]);
        }
        SnakeMesh x = Scenes.sized(2, 2);
        x.turns(0, 0, 0);
        edge.is("Terms, CHANNEL: that to a place and that from it are two", x.turns(1, 0, 2), 0);
        edge.is("Terms, CHANNEL: UP at first", new SnakeMesh().count(4), 0);
    }

    private static int turnAll(int w, int h) {
        SnakeMesh x = Scenes.sized(w, h);
        for (int a = 0; a < w; a++) {
            for (int b = 0; b < h; b++) {
                for (int d = 0; d < 4; d++) {
                    x.turns(a, b, d);
                }
            }
        }
        return x.count(4);
    }

    /** On 4 by 4: labels 0 to 3, 7 down to 4, 8 to 11, 15 down to 12 from left to right. */
    private static void nextEdges() {
        SnakeMesh x = new SnakeMesh();
        edge.is("Terms, NEXT: a label that is just v's is no more than it", x.next(1, 0, 1, 1), 11);
        edge.is("Terms, NEXT: a label 1 above v's is more than it", x.next(1, 0, 2, 1), 20);
        edge.is("Terms, NEXT: a label 1 below v's is the greatest", x.next(1, 0, 0, 1), 11);
        edge.is("Terms, NEXT: a label that is just v's is no less than it", x.next(1, 1, 1, 0), 10);
        edge.is("Terms, NEXT: a label 1 below v's is less than it", x.next(1, 1, 2, 0), 21);
        edge.is("Terms, NEXT: a label 1 above v's is the least", x.next(1, 1, 0, 0), 10);
        edge.is("Terms, NEXT: v 1 above u", x.next(3, 0, 3, 1), 31);
        edge.is("Terms, NEXT: v 1 below u", x.next(3, 1, 3, 0), 30);
        edge.is("Terms, NEXT: from the first place to the last", x.next(0, 0, 0, 3), 1);
        edge.is("Terms, NEXT: from the last place to the first", x.next(0, 3, 0, 0), 2);
        edge.is("Terms, NEXT: a channel that is DOWN is no less one", downNext(), 1);
    }

    private static int downNext() {
        SnakeMesh x = new SnakeMesh();
        x.turns(0, 0, 1);
        return x.next(0, 0, 3, 3);
    }

    private static void messages() {
        SnakeMesh x = new SnakeMesh();
        for (int i = 0; i < 5; i++) {
            edge.is("Terms, MESSAGES: number " + i + ", as they come", x.message(0, 0, 1), i);
        }
        edge.is("Terms, MESSAGES: never more than 5", x.message(0, 0, 1), -4);
        edge.is("Terms, MESSAGES: 5 are", x.count(2), 5);
        x.mesh(4, 4);
        edge.is("Terms, MESSAGES: numbers begin with 0 again in a new mesh", x.message(0, 0, 1), 0);
    }

    private static void goals() {
        edge.refused("Terms, GOALS: not the SOURCE", Scenes::still, x -> x.goal(0, 1, 1), SnakeMesh.BAD);
        SnakeMesh x = Scenes.everywhere();
        edge.is("Terms, GOALS: all places but the source", x.of(0, 3), 35);
        edge.is("Terms, GOALS: each once, so the first one is none any more", x.goal(0, 1, 0), 34);
        edge.is("Terms, GOALS: and is one again", x.goal(0, 1, 0), 35);
        SnakeMesh y = new SnakeMesh();
        y.message(1, 1, 1);
        y.goal(0, 0, 1);
        y.goal(0, 2, 1);
        edge.is("Terms, SIDE: a label 1 above the source's is side 0", y.goalAt(0, 0, 0), 1);
        edge.is("Terms, SIDE: a label 1 below the source's is side 1", y.goalAt(0, 1, 0), 21);
        edge.is("Terms, SIDE: neither has the other's, 0", y.worm(0, 0, 0), 1);
        edge.is("Terms, SIDE: neither has the other's, 1", y.worm(0, 1, 0), 1);
        edge.are("Terms, SIDE: a source with the least label has none below", Edge.worm(x, 0, 1), 0, 0, 0, 0, 0, 0, 1, 0, 0);
        SnakeMesh z = Scenes.sized(6, 6);
        z.message(0, 5, 1);
        Scenes.goalsEverywhere(z, 0, 0, 34);
        edge.is("Terms, SIDE: a source with the greatest label has all below", z.worm(0, 1, 0), 35);
        edge.is("Terms, SIDE: and none above", z.worm(0, 0, 0), 0);
        edge.is("Terms, SIDE: rising, the first goal", x.goalAt(0, 0, 0), 10);
        edge.is("Terms, SIDE: falling, the first goal", z.goalAt(0, 1, 0), 15);
    }

    private static void wormWithoutGoals() {
        SnakeMesh x = new SnakeMesh();
        x.message(2, 3, 9);
        edge.are("Terms, WORM without GOALS: DONE at once, m 0", Edge.worm(x, 0, 0), 0, 0, 0, 23, 0, 0, 1, 0, 0);
        edge.is("Terms, WORM without GOALS: not one that is not DONE", x.steps(200), 0);
        edge.are("Terms, WORM without GOALS: no MOVES by 200 STEPS", Edge.worm(x, 0, 0), 0, 0, 0, 23, 0, 0, 1, 0, 0);
        edge.is("Terms, WORM without GOALS: its WAY has the SOURCE", x.way(0, 1, 0), 23);
        edge.is("Terms, WORM without GOALS: its WAY has nothing more", x.way(0, 1, 1), -1);
        x.goal(0, 1, 3);
        edge.is("Terms, WORM without GOALS: with one it is not DONE", x.worm(0, 0, 6), 0);
        edge.is("Terms, WORM without GOALS: its message's other one is yet", x.worm(0, 1, 6), 1);
        x.goal(0, 1, 3);
        edge.is("Terms, WORM without GOALS: when the last is none any more, too", x.worm(0, 0, 6), 1);
    }

    private static int[] heldInRow(SnakeMesh x) {
        int[] held = new int[5];
        for (int k = 0; k < 5; k++) {
            held[k] = x.holds(k, 0, 0);
        }
        return held;
    }

    /** m no more than LENGTH: all that lies behind the head. */
    private static void holdsBelowLength() {
        int o = SnakeMesh.NONE;
        edge.are("Terms, HOLDS: nothing before it moves", heldInRow(Scenes.rowAfter(2, 0)), o, o, o, o, o);
        edge.are("Terms, HOLDS: m 1, below m is channel 0 alone", heldInRow(Scenes.rowAfter(2, 1)), 0, o, o, o, o);
        edge.are("Terms, HOLDS: m 2 of LENGTH 2, channel 0 is no less than m - LENGTH", heldInRow(Scenes.rowAfter(2, 2)), 0, 0, o, o, o);
        edge.are("Terms, HOLDS: LENGTH 9 at m 5, the whole way", heldInRow(Scenes.rowAfter(9, 5)), 0, 0, 0, 0, 0);
        edge.are("Terms, HOLDS: LENGTH 9 at m 9, the whole way yet", heldInRow(Scenes.rowAfter(9, 9)), 0, 0, 0, 0, 0);
        edge.are("Terms, HOLDS: LENGTH 9 at m 10, no more channel 0", heldInRow(Scenes.rowAfter(9, 10)), o, 0, 0, 0, 0);
    }

    private static void holdsFromLengthOn() {
        int o = SnakeMesh.NONE;
        edge.are("Terms, HOLDS: m 3 of LENGTH 2, channel 0 is less than m - LENGTH", heldInRow(Scenes.rowAfter(2, 3)), o, 0, 0, o, o);
        edge.are("Terms, HOLDS: m is n, the last two", heldInRow(Scenes.rowAfter(2, 5)), o, o, o, 0, 0);
        edge.are("Terms, HOLDS: m is n + 1, none that is not below n", heldInRow(Scenes.rowAfter(2, 6)), o, o, o, o, 0);
        edge.are("Terms, HOLDS: nothing when it is DONE", heldInRow(Scenes.rowAfter(2, 7)), o, o, o, o, o);
        edge.are("Terms, HOLDS: LENGTH 1, one at once", heldInRow(Scenes.rowAfter(1, 3)), o, o, 0, o, o);
        int[] many = new int[9];
        for (int m = 0; m < 9; m++) {
            many[m] = Scenes.rowAfter(2, m).worm(0, 0, 7);
        }
        edge.are("Terms, HOLDS: how many, by m", many, 0, 1, 2, 2, 2, 2, 1, 0, 0);
    }

    private static void headAndDone() {
        edge.is("Terms, HEAD: at the SOURCE before it moves", Scenes.rowAfter(2, 0).worm(0, 0, 3), 0);
        edge.is("Terms, HEAD: behind one channel", Scenes.rowAfter(2, 1).worm(0, 0, 3), 10);
        edge.is("Terms, HEAD: m is n - 1", Scenes.rowAfter(2, 4).worm(0, 0, 3), 40);
        edge.is("Terms, HEAD: m is n", Scenes.rowAfter(2, 5).worm(0, 0, 3), 50);
        edge.is("Terms, HEAD: m is n + 1, n at most", Scenes.rowAfter(2, 6).worm(0, 0, 3), 50);
        edge.is("Terms, HEAD: when it is DONE", Scenes.rowAfter(2, 7).worm(0, 0, 3), 50);
        int[] lengths = {1, 2, 9};
        for (int l : lengths) {
            SnakeMesh before = Scenes.rowAfter(l, 5 + l - 1);
            edge.is("Terms, DONE: LENGTH " + l + ", not at n + LENGTH - 1", before.worm(0, 0, 6), 0);
            edge.is("Terms, DONE: LENGTH " + l + ", 1 is not DONE yet", before.again() >= 0 ? before.steps(5 + l - 1) : -9, 1);
            SnakeMesh then = Scenes.rowAfter(l, 5 + l);
            edge.is("Terms, DONE: LENGTH " + l + ", at n + LENGTH", then.worm(0, 0, 6), 1);
            edge.is("Terms, DONE: LENGTH " + l + ", no STEP moves it", then.steps(200) + then.worm(0, 0, 2), 5 + l);
            edge.is("Terms, DONE: LENGTH " + l + ", no STEP lets it wait", then.worm(0, 0, 5), 0);
        }
    }

    /** Five messages of lengths 1 to 5, each with three channels of its own in a row of its own. */
    private static SnakeMesh fiveRows() {
        SnakeMesh x = Scenes.sized(4, 5);
        for (int y = 0; y < 5; y++) {
            x.message(0, y, y + 1);
            x.goal(y, 3, y);
        }
        return x;
    }

    /** Sides 0 in even rows, 1 in odd ones, since labels fall there from left to right. */
    private static int[] ofAll(SnakeMesh x, int what) {
        int[] all = new int[5];
        for (int i = 0; i < 5; i++) {
            all[i] = x.worm(i, i & 1, what);
        }
        return all;
    }

    private static void lengthOfEach() {
        SnakeMesh x = fiveRows();
        x.steps(3);
        edge.are("Terms, LENGTH: each HOLDS by its own, m 3", ofAll(x, 7), 1, 2, 3, 3, 3);
        x.steps(1);
        edge.are("Terms, LENGTH: each is DONE by its own, m 4", ofAll(x, 6), 1, 0, 0, 0, 0);
        edge.are("Terms, LENGTH: each HOLDS by its own, m 4", ofAll(x, 7), 0, 1, 2, 3, 3);
        x.steps(3);
        edge.are("Terms, LENGTH: each is DONE by its own, m 7", ofAll(x, 6), 1, 1, 1, 1, 0);
        edge.are("Terms, LENGTH: each HOLDS by its own, m 7", ofAll(x, 7), 0, 0, 0, 0, 1);
        edge.are("Terms, LENGTH: MOVES of each, DONE or not", ofAll(x, 2), 4, 5, 6, 7, 7);
        int[] when = new int[5];
        SnakeMesh y = fiveRows();
        for (int i = 0; i < 5; i++) {
            when[i] = y.when(i);
        }
        edge.are("Terms, LENGTH: when each is DONE", when, 4, 5, 6, 7, 8);
    }

    /** While one comes in at its goal, the channel that another just gave up is free for a third. */
    private static void takesNoMoreAtItsEnd() {
        SnakeMesh x = Scenes.sized(6, 2);
        int[][] ends = {{0, 1, 1}, {2, 3, 9}, {0, 1, 1}};
        for (int i = 0; i < 3; i++) {
            x.message(ends[i][0], 0, ends[i][2]);
            x.goal(i, ends[i][1], 0);
        }
        x.steps(2);
        edge.is("Terms, HOLDS: one whose m is n takes no CHANNEL more", x.worm(2, 0, 2), 1);
        edge.is("Terms, HOLDS: nor is one more HELD", x.count(5), 2);
        SnakeMesh shorter = Scenes.row(1);
        shorter.goal(0, 1, 0);
        shorter.goal(0, 5, 0);
        shorter.message(0, 0, 1);
        shorter.goal(1, 5, 0);
        shorter.steps(3);
        edge.is("Terms, HOLDS: nor one that its WAY had before a GOAL went", shorter.worm(1, 0, 2), 2);
    }

    private static void arrived() {
        SnakeMesh x = Scenes.row(2);
        x.goal(0, 2, 0);
        int[] arrived = new int[8];
        for (int m = 0; m < 8; m++) {
            arrived[m] = x.worm(0, 0, 4);
            x.steps(1);
        }
        edge.are("Terms, ARRIVED: 1 short of a goal, at it, 1 beyond it, at the last, beyond", arrived, 0, 0, 1, 1, 1, 2, 2, 2);
        edge.is("Terms, ARRIVED: all when it is DONE", x.worm(0, 0, 4), 2);
    }

    private static SnakeMesh rowWithDown(int length, int k) {
        SnakeMesh x = Scenes.row(length);
        x.turns(k, 0, 0);
        return x;
    }

    private static int[] afterSteps(SnakeMesh x, int steps) {
        x.steps(steps);
        return Edge.worm(x, 0, 0);
    }

    private static void waitsForDown() {
        edge.are("Terms, DOWN: channel 0, it waits at its SOURCE", afterSteps(rowWithDown(2, 0), 1), 1, 5, 0, 0, 0, 1, 0, 0, 1);
        edge.are("Terms, DOWN: channel m - 1 ahead of it, it still moves", afterSteps(rowWithDown(2, 2), 2), 1, 5, 2, 20, 0, 0, 0, 2, 1);
        edge.are("Terms, DOWN: channel m, it waits", afterSteps(rowWithDown(2, 2), 3), 1, 5, 2, 20, 0, 1, 0, 2, 1);
        edge.are("Terms, DOWN: it waits once more", afterSteps(rowWithDown(2, 2), 4), 1, 5, 2, 20, 0, 2, 0, 2, 1);
        edge.are("Terms, DOWN: the last channel", afterSteps(rowWithDown(2, 4), 200), 1, 5, 4, 40, 0, 196, 0, 2, 1);
        SnakeMesh behind = Scenes.rowAfter(2, 3);
        behind.turns(0, 0, 0);
        behind.turns(2, 0, 0);
        edge.are("Terms, DOWN: channels behind its head, held or not", afterSteps(behind, 1), 1, 5, 4, 40, 0, 0, 0, 2, 2);
        SnakeMesh atEnd = Scenes.rowAfter(2, 5);
        for (int k = 0; k < 5; k++) {
            atEnd.turns(k, 0, 0);
        }
        edge.are("Terms, DOWN: m is not below n, all its WAY may be", afterSteps(atEnd, 2), 1, 5, 7, 50, 1, 0, 1, 0, 5);
        SnakeMesh other = Scenes.row(2);
        other.turns(1, 0, 2);
        edge.are("Terms, DOWN: the channel the other way does not matter", afterSteps(other, 1), 1, 5, 1, 10, 0, 0, 0, 1, 0);
        SnakeMesh up = rowWithDown(2, 0);
        up.steps(3);
        up.turns(0, 0, 0);
        edge.are("Terms, DOWN: UP again, it moves", afterSteps(up, 1), 1, 5, 1, 10, 0, 3, 0, 1, 0);
    }

    /** Message 0 stands in the row's channels 0 and 1, since channel 2 is down; message 1 wants what is held. */
    private static SnakeMesh blocked(int fromX) {
        SnakeMesh x = rowWithDown(2, 2);
        x.message(fromX, 0, 1);
        x.goal(1, 5, 0);
        x.steps(2);
        return x;
    }

    private static void waitsForAnother() {
        SnakeMesh x = blocked(0);
        edge.are("Terms, HELD: another one HOLDS channel m, it waits", Edge.worm(x, 1, 0), 1, 5, 0, 0, 0, 2, 0, 0, 1);
        edge.is("Terms, HELD: while it waits, it is the other's", x.holds(0, 0, 0), 0);
        x.turns(2, 0, 0);
        x.steps(1);
        edge.are("Terms, HELD: what an earlier worm gives up in a STEP is free in it", Edge.worm(x, 1, 0), 1, 5, 1, 10, 0, 2, 0, 1, 0);
        edge.is("Terms, HELD: and is its own then", x.holds(0, 0, 0), 2);
        SnakeMesh later = Scenes.sized(6, 2);
        later.message(1, 0, 1);
        later.message(0, 0, 2);
        later.goal(0, 5, 0);
        later.goal(1, 5, 0);
        later.turns(1, 0, 0);
        later.steps(1);
        later.message(0, 0, 1);
        later.goal(2, 1, 0);
        later.steps(1);
        edge.is("Terms, HELD: a third one waits for the second", later.worm(2, 0, 5), 1);
        edge.is("Terms, HELD: a worm waits for no channel that it HOLDS itself", ownChannels(), 0);
        SnakeMesh facing = Scenes.sized(6, 2);
        facing.message(0, 0, 9);
        facing.goal(0, 1, 0);
        facing.message(1, 0, 9);
        facing.goal(1, 0, 0);
        facing.steps(1);
        edge.is("Terms, HELD: the channel the other way is another", facing.worm(1, 1, 2), 1);
        edge.is("Terms, HELD: and has its own holder", facing.holds(1, 0, 2), 3);
        SnakeMesh done = Scenes.rowAfter(1, 6);
        done.message(4, 0, 1);
        done.goal(1, 5, 0);
        done.steps(1);
        edge.is("Terms, HELD: one that is DONE stands in no one's way", done.worm(1, 0, 2), 1);
    }

    private static int ownChannels() {
        SnakeMesh x = Scenes.row(9);
        x.steps(5);
        return x.worm(0, 0, 5);
    }

    /** What a later worm gives up in a step is free in the next one only: the earlier one was there first. */
    private static void stepOrder() {
        SnakeMesh x = Scenes.sized(6, 2);
        x.message(0, 0, 1);
        x.message(1, 0, 1);
        x.goal(0, 5, 0);
        x.goal(1, 5, 0);
        x.turns(0, 0, 0);
        x.steps(1);
        x.turns(0, 0, 0);
        x.turns(2, 0, 0);
        x.steps(1);
        edge.is("Terms, STEP: both stand in a row", x.worm(0, 0, 2), 1);
        x.turns(2, 0, 0);
        x.steps(1);
        edge.is("Terms, STEP: the later one moves on", x.worm(1, 0, 2), 2);
        edge.is("Terms, STEP: what it gave up was not free yet for an earlier one", x.worm(0, 0, 2), 1);
        edge.is("Terms, STEP: that one waited, once for what was DOWN, once for this", x.worm(0, 0, 5), 2);
        x.steps(1);
        edge.is("Terms, STEP: it is free in the next one", x.worm(0, 0, 2), 2);
        SnakeMesh both = new SnakeMesh();
        both.message(0, 0, 1);
        both.message(0, 0, 1);
        both.goal(0, 3, 0);
        both.goal(1, 3, 0);
        both.steps(1);
        edge.is("Terms, STEP: of two that want the same the first message moves", both.worm(0, 0, 2), 1);
        edge.is("Terms, STEP: and the second waits", both.worm(1, 0, 5), 1);
    }

    private static void statesMany() {
        SnakeMesh x = new SnakeMesh();
        edge.refused("Terms, STATES: none at first", Scenes::fresh, SnakeMesh::back, SnakeMesh.NO);
        int[] states = new int[7];
        for (int k = 0; k < 7; k++) {
            x.steps(1);
            states[k] = x.told(4);
        }
        edge.are("Terms, STATES: 5 at most", states, 1, 2, 3, 4, 5, 5, 5);
        int[] steps = new int[6];
        for (int k = 0; k < 6; k++) {
            x.back();
            steps[k] = x.count(3);
        }
        edge.are("Terms, STATES: the older two of 7 are lost", steps, 6, 5, 4, 3, 2, 2);
        edge.is("Terms, STATES: the sixth back() of them was refused", x.told(1), 1);
        SnakeMesh y = new SnakeMesh();
        for (int k = 0; k < 5; k++) {
            y.steps(1);
        }
        for (int k = 0; k < 5; k++) {
            y.back();
        }
        edge.is("Terms, STATES: none of 5 is lost", y.count(3), 0);
        y.steps(3);
        y.back();
        y.steps(4);
        y.steps(5);
        y.back();
        edge.is("Terms, STATES: those left behind back() come where the one gone was", y.count(3), 4);
        edge.is("Terms, STATES: only those that are on the way back count", y.told(4), 1);
    }

    private static void statesOfCalls() {
        Edge.Made made = () -> {
            SnakeMesh x = Scenes.sized(5, 3);
            x.message(1, 1, 2);
            Due.write(x, "a;");
            return x;
        };
        edge.leaves("Terms, STATES: mesh() leaves one", made, x -> x.mesh(2, 2), 15);
        edge.leaves("Terms, STATES: message() leaves one", made, x -> x.message(0, 0, 1), 1);
        edge.leaves("Terms, STATES: goal() leaves one", made, x -> x.goal(0, 0, 0), 1);
        edge.leaves("Terms, STATES: turns() leaves one", made, x -> x.turns(0, 0, 0), 0);
        edge.leaves("Terms, STATES: steps() leaves one", made, x -> x.steps(1), 0);
        edge.leaves("Terms, STATES: again() leaves one", made, SnakeMesh::again, 0);
        edge.leaves("Terms, STATES: does() leaves one", made, SnakeMesh::does, 1);
        SnakeMesh y = made.make();
        y.type('a');
        edge.is("Terms, STATES: type() leaves none", y.told(4), 2);
        y.clear();
        edge.is("Terms, STATES: clear() leaves none", y.told(4), 2);
        y.back();
        edge.is("Terms, STATES: back() leaves none", y.told(4), 1);
        y.does();
        edge.is("Terms, STATES: does() with a FAULT leaves none", y.told(4), 1);
        Due.write(y, "k0;");
        y.does();
        edge.is("Terms, STATES: does() with an ORDER that ends all leaves none", y.told(4), 1);
    }

    private static void statesIfNothingBecomesOther() {
        edge.leaves("Terms, STATES: one also by again() on a new object", Scenes::fresh, SnakeMesh::again, 0);
        edge.leaves("Terms, STATES: one also by the same mesh() on a new object", Scenes::fresh, x -> x.mesh(4, 4), 16);
        edge.leaves("Terms, STATES: one also by a text that makes nothing other", () -> Scenes.typed("a;"), SnakeMesh::does, 1);
        edge.leaves("Terms, STATES: one also by again(), the oldest lost", Scenes::still, SnakeMesh::again, 0);
        SnakeMesh x = new SnakeMesh();
        x.turns(0, 0, 0);
        x.turns(0, 0, 0);
        edge.is("Terms, STATES: two by turns() to and fro", x.told(4), 2);
        SnakeMesh all = Scenes.busy();
        int[] before = Edge.worm(all, 1, 0);
        int[] told = Edge.told(all);
        all.mesh(2, 2);
        all.type('?');
        all.label(9, 9);
        all.back();
        edge.are("Terms, STATES: not THE TEXT and not how often refused", Edge.told(all), told[0] + 1, told[1], told[2], told[3] + 1, 4);
        edge.are("Terms, STATES: all of the mesh and its steps", Edge.counts(all), 5, 3, 3, 3, 1, 5, 1, 1);
        edge.are("Terms, STATES: all of a worm", Edge.worm(all, 1, 0), before);
    }

    private static void refusedFirstOf() {
        edge.refused("Terms, refused: BAD ahead of NO, goal() of the SOURCE behind MOVES", Scenes::busy, x -> x.goal(0, 1, 1), SnakeMesh.BAD);
        edge.refused("Terms, refused: BAD ahead of NO, goal() of no place behind MOVES", Scenes::busy, x -> x.goal(0, 5, 0), SnakeMesh.BAD);
        edge.refused("Terms, refused: NO, if no number is BAD", Scenes::busy, x -> x.goal(0, 2, 0), SnakeMesh.NO);
        edge.refused("Terms, refused: BAD ahead of FULL, message()", Scenes::full, x -> x.message(0, 0, 10), SnakeMesh.BAD);
        edge.refused("Terms, refused: FULL, message(), if no number is BAD", Scenes::full, x -> x.message(0, 0, 9), SnakeMesh.FULL);
        edge.refused("Terms, refused: BAD ahead of FULL, type()", Scenes::full, x -> x.type(128), SnakeMesh.BAD);
        edge.refused("Terms, refused: FULL, type(), if the byte is not BAD", Scenes::full, x -> x.type(127), SnakeMesh.FULL);
        edge.refused("Terms, refused: a getter counts, too", Scenes::fresh, x -> x.place(16), SnakeMesh.BAD);
        edge.refused("Terms, refused: told() itself counts", Scenes::fresh, x -> x.told(5), SnakeMesh.BAD);
    }
}

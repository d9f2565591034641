/** Objects in known states, made anew for each case. */
final class Scenes {
    private Scenes() {
    }

    static SnakeMesh fresh() {
        return new SnakeMesh();
    }

    static SnakeMesh sized(int w, int h) {
        SnakeMesh x = new SnakeMesh();
        x.mesh(w, h);
        return x;
    }

    /** What says a mesh of 4 by 4, text included, and nothing else. */
    static SnakeMesh typed(String text) {
        SnakeMesh x = new SnakeMesh();
        Due.write(x, text);
        return x;
    }

    /**
     * 5 by 3: labels 0 to 4, 9 down to 5, 10 to 14 from left to right. Three messages that have not
     * moved, the third one without goals; one channel down; 5 states; a text; one refusal.
     */
    static SnakeMesh still() {
        SnakeMesh x = sized(5, 3);
        x.message(1, 1, 2);
        x.goal(0, 4, 2);
        x.goal(0, 0, 0);
        x.message(0, 0, 9);
        x.goal(1, 3, 1);
        x.message(4, 2, 1);
        x.turns(2, 0, 0);
        x.label(-1, 0);
        Due.write(x, "k3;a;");
        return x;
    }

    /**
     * The same, three steps on. Message 0: side 0 by 11, 12, 22, 32 towards 42, side 1 is at its goal
     * 00, but not done; message 1 by 00, 10 to 20, where it waited once for the channel that is down.
     */
    static SnakeMesh busy() {
        SnakeMesh x = still();
        x.steps(3);
        x.goal(0, 1, 0);
        return x;
    }

    /** As busy, with the greatest number of messages and of bytes. */
    static SnakeMesh full() {
        SnakeMesh x = busy();
        x.message(2, 2, 1);
        x.message(3, 2, 1);
        Due.write(x, "k3;a;" + " ".repeat(115));
        return x;
    }

    /** Along the upper row of 6 by 2, from its left end to the right one: 5 channels by direction 0. */
    static SnakeMesh row(int length) {
        SnakeMesh x = sized(6, 2);
        x.message(0, 0, length);
        x.goal(0, 5, 0);
        return x;
    }

    static SnakeMesh rowAfter(int length, int steps) {
        SnakeMesh x = row(length);
        if (steps > 0) {
            x.steps(steps);
        }
        return x;
    }

    /** The message of 0, 0 on 6 by 6 that has all other places for its goals. */
    static SnakeMesh everywhere() {
        SnakeMesh x = sized(6, 6);
        x.message(0, 0, 9);
        goalsEverywhere(x, 0, 1, 35);
        return x;
    }

    static void goalsEverywhere(SnakeMesh x, int i, int firstLabel, int lastLabel) {
        for (int label = firstLabel; label <= lastLabel; label++) {
            int p = x.place(label);
            x.goal(i, p / 10, p % 10);
        }
    }
}

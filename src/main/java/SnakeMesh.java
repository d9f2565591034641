import java.util.Arrays;

/**
 * Copies of messages through a mesh, along the line that runs to and fro through its rows.
 *
 * Inside, a place is its label, a channel is 4 times the label that it leaves plus its direction,
 * and a worm is 2 times its message plus its side: so each of them is an index.
 */
public final class SnakeMesh {
    public static final int NONE = -1, BAD = -2, NO = -3, FULL = -4;

    private static final int LEAST_SIZE = 2, MOST_SIZE = 6, FIRST_SIZE = 4;
    private static final int MOST_PLACES = MOST_SIZE * MOST_SIZE;
    private static final int DIRECTIONS = 4;
    private static final int MOST_CHANNELS = MOST_PLACES * DIRECTIONS;
    private static final int MOST_MESSAGES = 5, SIDES = 2;
    private static final int MOST_WORMS = MOST_MESSAGES * SIDES;
    private static final int MOST_LENGTH = 9;
    private static final int MOST_STEPS = 200, MOST_AHEAD = 400;
    private static final int MOST_STATES = 5;
    private static final int MOST_BYTES = 120, MOST_BYTE = 127;
    /** An order has two bytes at least, its letter and its end. */
    private static final int MOST_ORDERS = MOST_BYTES / 2;
    private static final int MOST_NUMBERS = 3, MOST_FIGURES = 3;
    private static final int FAULT_BASE = -10, ORDER_BASE = -1000;
    private static final int WORM_FACTS = 9, MESSAGE_FACTS = 6, COUNTS = 8, TOLD_FACTS = 5;
    private static final int[] X_BY_DIRECTION = {1, 0, -1, 0};
    private static final int[] Y_BY_DIRECTION = {0, 1, 0, -1};

    private final State now = new State();
    private final State before = new State();
    private final State ahead = new State();
    private final History history = new History();
    private final Grid grid = new Grid();
    private final Ways ways = new Ways();
    private final Traffic traffic = new Traffic();
    private final Text text = new Text();
    private int refusedBad, refusedNo, refusedFull;

    public SnakeMesh() {
        now.begin(FIRST_SIZE, FIRST_SIZE);
        grid.lay(FIRST_SIZE, FIRST_SIZE);
    }

    // ---- what is told in

    public int mesh(int w, int h) {
        before.copyFrom(now);
        return settle(makeMesh(w, h));
    }

    public int message(int x, int y, int l) {
        before.copyFrom(now);
        return settle(addMessage(x, y, l));
    }

    public int goal(int i, int x, int y) {
        before.copyFrom(now);
        return settle(turnGoal(i, x, y));
    }

    public int turns(int x, int y, int d) {
        before.copyFrom(now);
        return settle(turnChannel(x, y, d));
    }

    public int steps(int n) {
        before.copyFrom(now);
        return settle(goSteps(n));
    }

    public int again() {
        before.copyFrom(now);
        return settle(startAgain());
    }

    // ---- the mesh

    public int label(int x, int y) {
        return grid.has(x, y) ? grid.labelAt(x, y) : refuse(BAD);
    }

    public int place(int label) {
        return grid.hasLabel(label) ? grid.tell(label) : refuse(BAD);
    }

    public int next(int a, int b, int x, int y) {
        if (!grid.has(a, b) || !grid.has(x, y) || (a == x && b == y)) {
            return refuse(BAD);
        }
        return grid.tell(grid.endOf(grid.channelTowards(grid.labelAt(a, b), grid.labelAt(x, y))));
    }

    public int far(int a, int b, int x, int y) {
        if (!grid.has(a, b) || !grid.has(x, y)) {
            return refuse(BAD);
        }
        return grid.distance(grid.labelAt(a, b), grid.labelAt(x, y));
    }

    public int holds(int x, int y, int d) {
        int channel = grid.channelAt(x, y, d);
        return channel == NONE ? refuse(BAD) : ways.holderOf(now, channel);
    }

    // ---- worms

    public int worm(int i, int s, int what) {
        if (!hasWorm(i, s) || what < 0 || what >= WORM_FACTS) {
            return refuse(BAD);
        }
        return wormFact(i * SIDES + s, what);
    }

    public int way(int i, int s, int k) {
        if (!hasWorm(i, s) || k < 0) {
            return refuse(BAD);
        }
        int worm = i * SIDES + s;
        return k > ways.channelsOf(worm) ? NONE : grid.tell(ways.placeOf(worm, k));
    }

    public int goalAt(int i, int s, int k) {
        if (!hasWorm(i, s) || k < 0) {
            return refuse(BAD);
        }
        int found = ways.goalOf(now, i * SIDES + s, k);
        return found == NONE ? NONE : grid.tell(found);
    }

    public int of(int i, int what) {
        if (!hasMessage(i) || what < 0 || what >= MESSAGE_FACTS) {
            return refuse(BAD);
        }
        return messageFact(i, what);
    }

    public int when(int i) {
        return i == NONE || hasMessage(i) ? stepsUntilDone(i) : refuse(BAD);
    }

    public int count(int what) {
        return what < 0 || what >= COUNTS ? refuse(BAD) : countFact(what);
    }

    // ---- texts

    public int type(int c) {
        if (c < 0 || c > MOST_BYTE) {
            return refuse(BAD);
        }
        return text.add(c) ? text.size() : refuse(FULL);
    }

    public int clear() {
        return text.empty();
    }

    public int does() {
        int fault = text.read();
        if (fault != NONE) {
            return FAULT_BASE - fault;
        }
        before.copyFrom(now);
        for (int k = 0; k < text.orders(); k++) {
            int answer = perform(text.letterOf(k), text.numberOf(k, 0), text.numberOf(k, 1), text.numberOf(k, 2));
            if (answer < 0) {
                now.copyFrom(before);
                layAll();
                return ORDER_BASE - k;
            }
        }
        history.push(before);
        return text.orders();
    }

    public int back() {
        if (!history.popInto(now)) {
            return refuse(NO);
        }
        layAll();
        return history.size();
    }

    public int told(int what) {
        return what < 0 || what >= TOLD_FACTS ? refuse(BAD) : toldFact(what);
    }

    public long digest() {
        long h = 2806;
        for (int what = 0; what < TOLD_FACTS; what++) {
            h = 31 * h + toldFact(what);
        }
        for (int what = 0; what < COUNTS; what++) {
            h = 31 * h + countFact(what);
        }
        for (int channel = 0; channel < grid.places() * DIRECTIONS; channel++) {
            h = 31 * h + (now.isDown(channel) ? 1 : 0);
        }
        for (int i = 0; i < now.messages; i++) {
            h = digestMessage(h, i);
        }
        return 31 * h + stepsUntilDone(NONE);
    }

    private long digestMessage(long from, int i) {
        long h = from;
        for (int what = 0; what < MESSAGE_FACTS; what++) {
            h = 31 * h + messageFact(i, what);
        }
        for (int worm = i * SIDES; worm < i * SIDES + SIDES; worm++) {
            for (int what = 0; what < WORM_FACTS; what++) {
                h = 31 * h + wormFact(worm, what);
            }
            for (int k = 0; k <= ways.channelsOf(worm); k++) {
                h = 31 * h + grid.tell(ways.placeOf(worm, k));
            }
        }
        return h;
    }

    // ---- how calls are answered

    private int refuse(int why) {
        switch (why) {
            case BAD:
                refusedBad++;
                break;
            case NO:
                refusedNo++;
                break;
            default:
                refusedFull++;
                break;
        }
        return why;
    }

    /** Behind a call told S: its refusal is counted, or the state before it is kept. */
    private int settle(int answer) {
        if (answer < 0) {
            return refuse(answer);
        }
        history.push(before);
        return answer;
    }

    /** An order of the text: no refusal of it counts, and it leaves no state of its own. */
    private int perform(int letter, int a, int b, int c) {
        switch (letter) {
            case 'w':
                return makeMesh(a, b);
            case 'm':
                return addMessage(a, b, c);
            case 'g':
                return turnGoal(a, b, c);
            case 't':
                return turnChannel(a, b, c);
            case 'k':
                return goSteps(a);
            case 'a':
                return startAgain();
            default:
                return BAD;
        }
    }

    private int makeMesh(int w, int h) {
        if (w < LEAST_SIZE || w > MOST_SIZE || h < LEAST_SIZE || h > MOST_SIZE) {
            return BAD;
        }
        int old = grid.places();
        now.begin(w, h);
        grid.lay(w, h);
        return old;
    }

    private int addMessage(int x, int y, int l) {
        if (!grid.has(x, y) || l < 1 || l > MOST_LENGTH) {
            return BAD;
        }
        int i = now.addMessage(grid.labelAt(x, y), l);
        if (i >= 0) {
            layMessage(i);
        }
        return i;
    }

    private int turnGoal(int i, int x, int y) {
        if (!hasMessage(i) || !grid.has(x, y)) {
            return BAD;
        }
        int label = grid.labelAt(x, y);
        if (label == now.source[i]) {
            return BAD;
        }
        if (now.moves[i * SIDES] > 0 || now.moves[i * SIDES + 1] > 0) {
            return NO;
        }
        now.goals[i] ^= 1L << label;
        layMessage(i);
        return Long.bitCount(now.goals[i]);
    }

    private int turnChannel(int x, int y, int d) {
        int channel = grid.channelAt(x, y, d);
        if (channel == NONE) {
            return BAD;
        }
        now.turn(channel);
        return now.isDown(channel) ? 0 : 1;
    }

    private int goSteps(int n) {
        if (n < 1 || n > MOST_STEPS) {
            return BAD;
        }
        traffic.enter(ways, now);
        traffic.run(ways, now, n);
        return ways.undone(now, NONE);
    }

    private int startAgain() {
        int old = now.stepped;
        now.standStill();
        return old;
    }

    // ---- what is told out

    private boolean hasMessage(int i) {
        return i >= 0 && i < now.messages;
    }

    private boolean hasWorm(int i, int s) {
        return hasMessage(i) && s >= 0 && s < SIDES;
    }

    private int wormFact(int worm, int what) {
        switch (what) {
            case 0:
                return Long.bitCount(now.goalsOfWorm(worm));
            case 1:
                return ways.channelsOf(worm);
            case 2:
                return now.moves[worm];
            case 3:
                return grid.tell(ways.placeOf(worm, ways.headOf(now, worm)));
            case 4:
                return ways.arrived(now, worm);
            case 5:
                return now.waited[worm];
            case 6:
                return ways.isDone(now, worm) ? 1 : 0;
            case 7:
                return ways.headOf(now, worm) - ways.tailOf(now, worm);
            default:
                return ways.channelsDown(now, worm);
        }
    }

    private int messageFact(int i, int what) {
        switch (what) {
            case 0:
                return grid.xOf(now.source[i]);
            case 1:
                return grid.yOf(now.source[i]);
            case 2:
                return now.length[i];
            case 3:
                return Long.bitCount(now.goals[i]);
            case 4:
                return ways.channelsOf(i * SIDES) + ways.channelsOf(i * SIDES + 1);
            default:
                return straightWays(i);
        }
    }

    private int straightWays(int i) {
        int sum = 0;
        for (int label = 0; label < grid.places(); label++) {
            if ((now.goals[i] >> label & 1L) != 0) {
                sum += grid.distance(now.source[i], label);
            }
        }
        return sum;
    }

    private int countFact(int what) {
        switch (what) {
            case 0:
                return now.wide;
            case 1:
                return now.high;
            case 2:
                return now.messages;
            case 3:
                return now.stepped;
            case 4:
                return now.channelsDown();
            case 5:
                return ways.channelsHeld(now);
            case 6:
                return now.waitedInAll();
            default:
                return messagesDone();
        }
    }

    private int messagesDone() {
        int found = 0;
        for (int i = 0; i < now.messages; i++) {
            if (ways.undone(now, i) == 0) {
                found++;
            }
        }
        return found;
    }

    private int toldFact(int what) {
        switch (what) {
            case 0:
                return refusedBad;
            case 1:
                return refusedNo;
            case 2:
                return refusedFull;
            case 3:
                return text.size();
            default:
                return history.size();
        }
    }

    /** Runs a copy ahead, so that nothing of the state itself becomes other. */
    private int stepsUntilDone(int i) {
        ahead.copyFrom(now);
        traffic.enter(ways, ahead);
        for (int taken = 0; taken <= MOST_AHEAD; taken++) {
            if (ways.undone(ahead, i) == 0) {
                return taken;
            }
            if (!traffic.stepOnce(ways, ahead)) {
                return NONE;
            }
        }
        return NONE;
    }

    // ---- what follows from the state, made anew when that becomes other

    private void layAll() {
        grid.lay(now.wide, now.high);
        for (int i = 0; i < now.messages; i++) {
            layMessage(i);
        }
    }

    private void layMessage(int i) {
        ways.lay(grid, now, i * SIDES);
        ways.lay(grid, now, i * SIDES + 1);
    }

    /** All that back() brings back, and nothing that follows from it. */
    private static final class State {
        int wide, high, stepped, messages;
        /** By labels: bit d is set if the channel by direction d is down. */
        final int[] down = new int[MOST_PLACES];
        /** Labels, by messages. */
        final int[] source = new int[MOST_MESSAGES];
        final int[] length = new int[MOST_MESSAGES];
        /** By messages: the bit of each goal's label is set. */
        final long[] goals = new long[MOST_MESSAGES];
        final int[] moves = new int[MOST_WORMS];
        final int[] waited = new int[MOST_WORMS];

        void begin(int w, int h) {
            wide = w;
            high = h;
            messages = 0;
            Arrays.fill(down, 0);
            standStill();
        }

        void standStill() {
            stepped = 0;
            Arrays.fill(moves, 0);
            Arrays.fill(waited, 0);
        }

        void copyFrom(State other) {
            wide = other.wide;
            high = other.high;
            stepped = other.stepped;
            messages = other.messages;
            System.arraycopy(other.down, 0, down, 0, MOST_PLACES);
            System.arraycopy(other.source, 0, source, 0, MOST_MESSAGES);
            System.arraycopy(other.length, 0, length, 0, MOST_MESSAGES);
            System.arraycopy(other.goals, 0, goals, 0, MOST_MESSAGES);
            System.arraycopy(other.moves, 0, moves, 0, MOST_WORMS);
            System.arraycopy(other.waited, 0, waited, 0, MOST_WORMS);
        }

        /** Its number; FULL: no room. */
        int addMessage(int label, int l) {
            int i = messages;
            if (i >= MOST_MESSAGES) {
                return FULL;
            }
            source[i] = label;
            length[i] = l;
            goals[i] = 0;
            for (int worm = i * SIDES; worm < i * SIDES + SIDES; worm++) {
                moves[worm] = 0;
                waited[worm] = 0;
            }
            messages++;
            return i;
        }

        int worms() {
            return messages * SIDES;
        }

        int lengthOf(int worm) {
            return length[worm >> 1];
        }

        int sourceOf(int worm) {
            return source[worm >> 1];
        }

        boolean rises(int worm) {
            return (worm & 1) == 0;
        }

        long goalsOfWorm(int worm) {
            long below = (1L << sourceOf(worm)) - 1;
            return goals[worm >> 1] & (rises(worm) ? ~below : below);
        }

        boolean isDown(int channel) {
            return channel >= 0 && channel < MOST_CHANNELS && (down[channel >> 2] >> (channel & 3) & 1) != 0;
        }

        void turn(int channel) {
            if (channel >= 0 && channel < MOST_CHANNELS) {
                down[channel >> 2] ^= 1 << (channel & 3);
            }
        }

        int channelsDown() {
            int found = 0;
            for (int label = 0; label < MOST_PLACES; label++) {
                found += Integer.bitCount(down[label]);
            }
            return found;
        }

        int waitedInAll() {
            int sum = 0;
            for (int worm = 0; worm < worms(); worm++) {
                sum += waited[worm];
            }
            return sum;
        }
    }

    /** The states to go back to, in a ring, so that the oldest one gives its room to the newest. */
    private static final class History {
        private final State[] kept = new State[MOST_STATES];
        private int top, held;

        History() {
            for (int k = 0; k < MOST_STATES; k++) {
                kept[k] = new State();
            }
        }

        int size() {
            return held;
        }

        void push(State state) {
            kept[top].copyFrom(state);
            top = top + 1 < MOST_STATES ? top + 1 : 0;
            held = Math.min(held + 1, MOST_STATES);
        }

        boolean popInto(State state) {
            if (held == 0) {
                return false;
            }
            top = top > 0 ? top - 1 : MOST_STATES - 1;
            held--;
            state.copyFrom(kept[top]);
            return true;
        }
    }

    /** Where labels stand and where channels end, for one width and height. */
    private static final class Grid {
        private int wide, high;
        private final int[] xs = new int[MOST_PLACES];
        private final int[] ys = new int[MOST_PLACES];
        /** By channels: the label at its end, NONE where nothing is there. */
        private final int[] ends = new int[MOST_CHANNELS];

        void lay(int w, int h) {
            if (w == wide && h == high) {
                return;
            }
            wide = w;
            high = h;
            for (int y = 0; y < high; y++) {
                for (int x = 0; x < wide; x++) {
                    layPlace(x, y);
                }
            }
        }

        private void layPlace(int x, int y) {
            int label = labelAt(x, y);
            xs[label] = x;
            ys[label] = y;
            for (int d = 0; d < DIRECTIONS; d++) {
                int toX = x + X_BY_DIRECTION[d];
                int toY = y + Y_BY_DIRECTION[d];
                ends[label * DIRECTIONS + d] = has(toX, toY) ? labelAt(toX, toY) : NONE;
            }
        }

        int places() {
            return wide * high;
        }

        boolean has(int x, int y) {
            return x >= 0 && x < wide && y >= 0 && y < high;
        }

        boolean hasLabel(int label) {
            return label >= 0 && label < places();
        }

        int labelAt(int x, int y) {
            return y * wide + ((y & 1) == 0 ? x : wide - 1 - x);
        }

        int xOf(int label) {
            return hasLabel(label) ? xs[label] : NONE;
        }

        int yOf(int label) {
            return hasLabel(label) ? ys[label] : NONE;
        }

        int tell(int label) {
            return hasLabel(label) ? 10 * xs[label] + ys[label] : NONE;
        }

        int endOf(int channel) {
            return channel >= 0 && channel < MOST_CHANNELS ? ends[channel] : NONE;
        }

        /** NONE: no such channel. */
        int channelAt(int x, int y, int d) {
            if (!has(x, y) || d < 0 || d >= DIRECTIONS) {
                return NONE;
            }
            int channel = labelAt(x, y) * DIRECTIONS + d;
            return ends[channel] == NONE ? NONE : channel;
        }

        /** The channel to NEXT; NONE only from no place, since the next label on the line always fits. */
        int channelTowards(int from, int to) {
            if (from < 0 || from >= MOST_PLACES) {
                return NONE;
            }
            int best = NONE;
            int bestEnd = NONE;
            for (int channel = from * DIRECTIONS; channel < from * DIRECTIONS + DIRECTIONS; channel++) {
                int end = ends[channel];
                if (end == NONE) {
                    continue;
                }
                boolean better = to > from
                        ? end <= to && end > bestEnd
                        : end >= to && (bestEnd == NONE || end < bestEnd);
                if (better) {
                    best = channel;
                    bestEnd = end;
                }
            }
            return best;
        }

        int distance(int from, int to) {
            int at = from;
            int taken = 0;
            while (at != to && taken < MOST_PLACES) {
                at = endOf(channelTowards(at, to));
                taken++;
            }
            return taken;
        }
    }

    /** The ways of all worms, and what a state's moves mean on them. */
    private static final class Ways {
        private final int[] lengths = new int[MOST_WORMS];
        private final int[][] places = new int[MOST_WORMS][MOST_PLACES];
        private final int[][] channels = new int[MOST_WORMS][MOST_PLACES];

        void lay(Grid grid, State state, int worm) {
            long goals = state.goalsOfWorm(worm);
            int by = state.rises(worm) ? 1 : -1;
            lengths[worm] = 0;
            places[worm][0] = state.sourceOf(worm);
            for (int label = state.sourceOf(worm) + by; label >= 0 && label < MOST_PLACES; label += by) {
                if ((goals >> label & 1L) != 0) {
                    layTo(grid, worm, label);
                }
            }
        }

        private void layTo(Grid grid, int worm, int goal) {
            int n = lengths[worm];
            // Labels only rise or only fall on a way, so it is shorter than the places are many.
            while (n + 1 < MOST_PLACES && places[worm][n] != goal) {
                int channel = grid.channelTowards(places[worm][n], goal);
                if (channel == NONE) {
                    break;
                }
                channels[worm][n] = channel;
                places[worm][n + 1] = grid.endOf(channel);
                n++;
            }
            lengths[worm] = n;
        }

        int channelsOf(int worm) {
            return lengths[worm];
        }

        int placeOf(int worm, int k) {
            return places[worm][k];
        }

        int channelOf(int worm, int k) {
            return channels[worm][k];
        }

        /** Label of the k-th goal; NONE: not so many. */
        int goalOf(State state, int worm, int k) {
            long goals = state.goalsOfWorm(worm);
            int passed = 0;
            for (int step = 1; step <= lengths[worm]; step++) {
                int label = places[worm][step];
                if ((goals >> label & 1L) != 0) {
                    if (passed == k) {
                        return label;
                    }
                    passed++;
                }
            }
            return NONE;
        }

        /** How many channels lie behind the head: the first one that is not held. */
        int headOf(State state, int worm) {
            return Math.min(state.moves[worm], lengths[worm]);
        }

        /** The first channel that is held, if one is. */
        int tailOf(State state, int worm) {
            return Math.max(0, state.moves[worm] - state.lengthOf(worm));
        }

        int arrived(State state, int worm) {
            long goals = state.goalsOfWorm(worm);
            int found = 0;
            for (int k = 1; k <= headOf(state, worm); k++) {
                if ((goals >> places[worm][k] & 1L) != 0) {
                    found++;
                }
            }
            return found;
        }

        boolean isDone(State state, int worm) {
            return lengths[worm] == 0 || state.moves[worm] >= lengths[worm] + state.lengthOf(worm);
        }

        int channelsDown(State state, int worm) {
            int found = 0;
            for (int k = 0; k < lengths[worm]; k++) {
                if (state.isDown(channels[worm][k])) {
                    found++;
                }
            }
            return found;
        }

        /** How many worms of message i (NONE: of all) are not done. */
        int undone(State state, int i) {
            int first = i == NONE ? 0 : i * SIDES;
            int end = i == NONE ? state.worms() : first + SIDES;
            int found = 0;
            for (int worm = first; worm < end; worm++) {
                if (!isDone(state, worm)) {
                    found++;
                }
            }
            return found;
        }

        /** A worm enters no channel that another one holds, so none is counted twice. */
        int channelsHeld(State state) {
            int sum = 0;
            for (int worm = 0; worm < state.worms(); worm++) {
                sum += headOf(state, worm) - tailOf(state, worm);
            }
            return sum;
        }

        int holderOf(State state, int channel) {
            for (int worm = 0; worm < state.worms(); worm++) {
                for (int k = tailOf(state, worm); k < headOf(state, worm); k++) {
                    if (channels[worm][k] == channel) {
                        return worm;
                    }
                }
            }
            return NONE;
        }
    }

    /** Takes the steps of a state; keeps a table of what is held in it, to look that up at once. */
    private static final class Traffic {
        private final boolean[] taken = new boolean[MOST_CHANNELS];

        /** To be called ahead of a state's first step: the table may still be another state's. */
        void enter(Ways ways, State state) {
            for (int channel = 0; channel < MOST_CHANNELS; channel++) {
                taken[channel] = false;
            }
            for (int worm = 0; worm < state.worms(); worm++) {
                for (int k = ways.tailOf(state, worm); k < ways.headOf(state, worm); k++) {
                    mark(ways.channelOf(worm, k), true);
                }
            }
        }

        void run(Ways ways, State state, int n) {
            for (int left = n - 1; left >= 0; left--) {
                if (!stepOnce(ways, state)) {
                    // Where no worm moves, each later step is like this one.
                    waitFor(ways, state, left);
                    return;
                }
            }
        }

        /** Whether a worm moved. */
        boolean stepOnce(Ways ways, State state) {
            boolean moved = false;
            for (int worm = 0; worm < state.worms(); worm++) {
                if (ways.isDone(state, worm)) {
                    continue;
                }
                if (isStopped(ways, state, worm)) {
                    state.waited[worm]++;
                } else {
                    moveOn(ways, state, worm);
                    moved = true;
                }
            }
            state.stepped++;
            return moved;
        }

        private boolean isStopped(Ways ways, State state, int worm) {
            int m = state.moves[worm];
            if (m >= ways.channelsOf(worm)) {
                return false;
            }
            // A way has no channel twice, so one that is taken here is another worm's.
            int channel = ways.channelOf(worm, m);
            return state.isDown(channel) || isTaken(channel);
        }

        private void moveOn(Ways ways, State state, int worm) {
            int m = state.moves[worm];
            int left = m - state.lengthOf(worm);
            if (m < ways.channelsOf(worm)) {
                mark(ways.channelOf(worm, m), true);
            }
            if (left >= 0 && left < ways.channelsOf(worm)) {
                mark(ways.channelOf(worm, left), false);
            }
            state.moves[worm] = m + 1;
        }

        private void waitFor(Ways ways, State state, int n) {
            state.stepped += n;
            for (int worm = 0; worm < state.worms(); worm++) {
                if (!ways.isDone(state, worm)) {
                    state.waited[worm] += n;
                }
            }
        }

        private boolean isTaken(int channel) {
            return channel >= 0 && channel < MOST_CHANNELS && taken[channel];
        }

        private void mark(int channel, boolean asTaken) {
            if (channel >= 0 && channel < MOST_CHANNELS) {
                taken[channel] = asTaken;
            }
        }
    }

    /** The text, and the orders that its last reading found. */
    private static final class Text {
        private final int[] bytes = new int[MOST_BYTES];
        private int typed;
        private final int[] letters = new int[MOST_ORDERS];
        private final int[] numbers = new int[MOST_ORDERS * MOST_NUMBERS];
        private int found;
        private int spot;

        boolean add(int c) {
            if (typed >= MOST_BYTES) {
                return false;
            }
            bytes[typed] = c;
            typed++;
            return true;
        }

        int empty() {
            int old = typed;
            typed = 0;
            return old;
        }

        int size() {
            return typed;
        }

        int orders() {
            return found;
        }

        int letterOf(int order) {
            return letters[order];
        }

        int numberOf(int order, int k) {
            return numbers[order * MOST_NUMBERS + k];
        }

        /** The fault; NONE: there is none. */
        int read() {
            found = 0;
            spot = 0;
            passBlanks();
            while (found < MOST_ORDERS && (spot < typed || found == 0)) {
                if (!readOrder()) {
                    return spot;
                }
                found++;
                passBlanks();
            }
            return NONE;
        }

        /** If it can't, the spot is where the fault is. */
        private boolean readOrder() {
            int letter = byteHere();
            int due = numbersDue(letter);
            if (due == NONE) {
                return false;
            }
            letters[found] = letter;
            spot++;
            for (int k = 0; k < MOST_NUMBERS; k++) {
                numbers[found * MOST_NUMBERS + k] = 0;
            }
            for (int k = 0; k < due; k++) {
                passBlanks();
                if (!readNumber(found * MOST_NUMBERS + k)) {
                    return false;
                }
            }
            passBlanks();
            if (byteHere() != ';') {
                return false;
            }
            spot++;
            return true;
        }

        private boolean readNumber(int into) {
            int figures = 0;
            int value = 0;
            while (figures < MOST_FIGURES && isFigure(byteHere())) {
                value = 10 * value + byteHere() - '0';
                figures++;
                spot++;
            }
            numbers[into] = value;
            return figures > 0 && !isFigure(byteHere());
        }

        /** NONE: not the letter of an order. */
        private static int numbersDue(int letter) {
            switch (letter) {
                case 'w':
                    return 2;
                case 'm':
                case 'g':
                case 't':
                    return 3;
                case 'k':
                    return 1;
                case 'a':
                    return 0;
                default:
                    return NONE;
            }
        }

        private static boolean isFigure(int c) {
            return c >= '0' && c <= '9';
        }

        private void passBlanks() {
            while (spot < typed && bytes[spot] == ' ') {
                spot++;
            }
        }

        /** NONE behind the last byte. */
        private int byteHere() {
            return spot < typed ? bytes[spot] : NONE;
        }
    }
}

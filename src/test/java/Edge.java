import java.util.HashSet;
import java.util.Set;

/**
 * Boundary cases, each under a name of its own that begins with "Promise n" or "Terms".
 *
 * What a call leaves as it was is seen by the digest. That is a sum in which each value stands with
 * a weight, a power of 31: so how far two digests lie apart tells that one value alone is other.
 */
final class Edge {
    private static final int TOLD = 5, COUNTS = 8, FACTS_OF_MESSAGE = 6, FACTS_OF_WORM = 9;
    private static final int PROMISES = 24, MOST_STATES = 5;

    interface Made {
        SnakeMesh make();
    }

    interface Call {
        long on(SnakeMesh x);
    }

    interface CallWith {
        long on(SnakeMesh x, int n);
    }

    /** A number of a call: its least and its greatest, and the answers that are due for them. */
    record Range(int low, long atLow, int high, long atHigh) {
    }

    private final Due due;
    private final Set<String> names = new HashSet<>();

    Edge(Due due) {
        this.due = due;
    }

    private String named(String name) {
        due.holds(name + " begins with its promise or with Terms", name.matches("(Promise \\d+|Terms), .*"));
        due.holds(name + " is the name of one case alone", names.add(name));
        return name;
    }

    /** One answer. */
    void is(String name, long got, long want) {
        due.is(named(name), got, want);
    }

    /** Some facts of one moment. */
    void are(String name, int[] got, int... want) {
        named(name);
        due.is(name + ": how many facts", got.length, want.length);
        for (int k = 0; k < Math.min(got.length, want.length); k++) {
            due.is(name + ": fact " + k, got[k], want[k]);
        }
    }

    /** A call that answers and by which nothing becomes other. */
    void tells(String name, Made made, Call call, long answer) {
        named(name);
        SnakeMesh x = made.make();
        long before = x.digest();
        due.is(name, call.on(x), answer);
        due.is(name + ": nothing became other", x.digest(), before);
    }

    /** A call told S that is not refused: it leaves a state, and by back() all is as it was. */
    void leaves(String name, Made made, Call call, long answer) {
        named(name);
        SnakeMesh x = made.make();
        long before = x.digest();
        int[] told = told(x);
        int states = Math.min(told[4] + 1, MOST_STATES);
        due.is(name, call.on(x), answer);
        for (int what = 0; what < TOLD; what++) {
            due.is(name + ": told(" + what + ")", x.told(what), what == 4 ? states : told[what]);
        }
        due.is(name + ": back()", x.back(), states - 1);
        due.is(name + ": as it was by back()", x.digest() - before, (states - 1 - told[4]) * weight(x, 4));
    }

    /** A call that is not refused and by which told(what) alone becomes other. */
    void changes(String name, Made made, Call call, long answer, int what, int by) {
        named(name);
        SnakeMesh x = made.make();
        long before = x.digest();
        due.is(name, call.on(x), answer);
        due.is(name + ": told(" + what + ") alone became other", x.digest() - before, by * weight(x, what));
    }

    /**
     * A refused call: its answer, what told() says of it, and that nothing else became other, neither
     * what is now, nor the states to go back to, nor the text. A twin that was not called shows that.
     */
    void refused(String name, Made made, Call call, int why) {
        named(name);
        SnakeMesh x = made.make();
        SnakeMesh twin = made.make();
        int[] told = told(x);
        int counted = SnakeMesh.BAD - why;
        due.is(name, call.on(x), why);
        for (int what = 0; what < TOLD; what++) {
            due.is(name + ": told(" + what + ")", x.told(what), told[what] + (what == counted ? 1 : 0));
        }
        apartBy(name + ": nothing else became other", x, twin, counted);
        for (int k = 0; k <= MOST_STATES; k++) {
            due.is(name + ": back() " + k + " behind it", x.back(), twin.back());
            apartBy(name + ": state " + k + " became not other", x, twin, counted);
        }
        due.is(name + ": the text did not become other", x.does(), twin.does());
        apartBy(name + ": what the text does did not become other", x, twin, counted);
    }

    private void apartBy(String name, SnakeMesh x, SnakeMesh twin, int counted) {
        due.is(name, x.digest() - twin.digest(), weight(twin, counted));
    }

    /** A number of a getter: its least and greatest are right, what lies beyond them is refused. */
    void within(String name, Made made, CallWith call, Range range) {
        tells(name + " " + range.low + " is right", made, x -> call.on(x, range.low), range.atLow);
        tells(name + " " + range.high + " is right", made, x -> call.on(x, range.high), range.atHigh);
        beyond(name, made, call, range);
    }

    /** The same for a number of a call told S. */
    void withinS(String name, Made made, CallWith call, Range range) {
        leaves(name + " " + range.low + " is right", made, x -> call.on(x, range.low), range.atLow);
        leaves(name + " " + range.high + " is right", made, x -> call.on(x, range.high), range.atHigh);
        beyond(name, made, call, range);
    }

    private void beyond(String name, Made made, CallWith call, Range range) {
        isBad(name, made, call, range.low - 1);
        isBad(name, made, call, Integer.MIN_VALUE);
        if (range.high < Integer.MAX_VALUE) {
            isBad(name, made, call, range.high + 1);
            isBad(name, made, call, Integer.MAX_VALUE);
        }
    }

    void isBad(String name, Made made, CallWith call, int n) {
        refused(name + " " + n + " is BAD", made, x -> call.on(x, n), SnakeMesh.BAD);
    }

    /** By what the digest grows if its k-th value (0 on) is 1 more. */
    static long weight(SnakeMesh x, int k) {
        int values = TOLD + COUNTS + 4 * x.count(0) * x.count(1) + 1;
        for (int i = 0; i < x.count(2); i++) {
            values += FACTS_OF_MESSAGE + 2 * FACTS_OF_WORM + x.worm(i, 0, 1) + 1 + x.worm(i, 1, 1) + 1;
        }
        long weight = 1;
        for (int behind = k + 1; behind < values; behind++) {
            weight *= 31;
        }
        return weight;
    }

    static int[] told(SnakeMesh x) {
        return facts(TOLD, x::told);
    }

    static int[] counts(SnakeMesh x) {
        return facts(COUNTS, x::count);
    }

    static int[] worm(SnakeMesh x, int i, int s) {
        return facts(FACTS_OF_WORM, what -> x.worm(i, s, what));
    }

    static int[] of(SnakeMesh x, int i) {
        return facts(FACTS_OF_MESSAGE, what -> x.of(i, what));
    }

    private static int[] facts(int many, java.util.function.IntUnaryOperator fact) {
        int[] all = new int[many];
        for (int what = 0; what < many; what++) {
            all[what] = fact.applyAsInt(what);
        }
        return all;
    }

    /** No promise is left without a case. */
    void end() {
        for (int promise = 1; promise <= PROMISES; promise++) {
            String start = "Promise " + promise + ", ";
            due.holds(start + "has a case", names.stream().anyMatch(name -> name.startsWith(start)));
        }
        due.holds("Terms has a case", names.stream().anyMatch(name -> name.startsWith("Terms, ")));
        System.out.println(names.size() + " boundary cases");
    }
}

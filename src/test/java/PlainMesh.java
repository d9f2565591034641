import java.util.ArrayDeque;
import java.util.ArrayList;
import java.util.Comparator;
import java.util.List;
import java.util.regex.Matcher;
import java.util.regex.Pattern;

/**
 * The document once more, as plainly and slowly as it can be said: places are pairs, ways are
 * sought anew at each call, held channels are compared one by one, texts are matched by a pattern.
 */
final class PlainMesh {
    private static final int NONE = -1, BAD = -2, NO = -3, FULL = -4;
    private static final String N = "[0-9]{1,3}";
    private static final Pattern ORDER = Pattern.compile(
            " *(?:(w) *(" + N + ") +(" + N + ")|([mgt]) *(" + N + ") +(" + N + ") +(" + N + ")|(k) *(" + N + ")|(a)) *;");
    private static final Pattern TEXT = Pattern.compile(
            "(?: *(?:w *" + N + " +" + N + "|[mgt] *" + N + " +" + N + " +" + N + "|k *" + N + "|a) *;)+ *");

    private record Place(int x, int y) {
        int told() {
            return 10 * x + y;
        }

        Place beside(int d) {
            return switch (d) {
                case 0 -> new Place(x + 1, y);
                case 1 -> new Place(x, y + 1);
                case 2 -> new Place(x - 1, y);
                default -> new Place(x, y - 1);
            };
        }
    }

    private record Channel(Place from, Place to) {
    }

    private static final class Message {
        Place source;
        int length;
        List<Place> goals = new ArrayList<>();
        int[] m = new int[2];
        int[] waited = new int[2];

        Message copy() {
            Message c = new Message();
            c.source = source;
            c.length = length;
            c.goals = new ArrayList<>(goals);
            c.m = m.clone();
            c.waited = waited.clone();
            return c;
        }
    }

    private static final class State {
        int w = 4, h = 4, steps = 0;
        List<Channel> down = new ArrayList<>();
        List<Message> messages = new ArrayList<>();

        State copy() {
            State c = new State();
            c.w = w;
            c.h = h;
            c.steps = steps;
            c.down = new ArrayList<>(down);
            for (Message message : messages) {
                c.messages.add(message.copy());
            }
            return c;
        }

        boolean there(Place p) {
            return p.x >= 0 && p.y >= 0 && p.x < w && p.y < h;
        }

        int label(Place p) {
            return p.y % 2 == 0 ? p.y * w + p.x : p.y * w + w - 1 - p.x;
        }

        List<Place> places() {
            List<Place> all = new ArrayList<>();
            for (int x = 0; x < w; x++) {
                for (int y = 0; y < h; y++) {
                    all.add(new Place(x, y));
                }
            }
            all.sort(Comparator.comparingInt(this::label));
            return all;
        }

        Place next(Place u, Place v) {
            List<Place> fit = new ArrayList<>();
            boolean up = label(v) > label(u);
            for (int d = 0; d < 4; d++) {
                Place p = u.beside(d);
                if (there(p) && (up ? label(p) <= label(v) : label(p) >= label(v))) {
                    fit.add(p);
                }
            }
            fit.sort(Comparator.comparingInt(this::label));
            return up ? fit.get(fit.size() - 1) : fit.get(0);
        }

        int far(Place u, Place v) {
            return u.equals(v) ? 0 : 1 + far(next(u, v), v);
        }

        List<Place> goals(int i, int s) {
            Message message = messages.get(i);
            List<Place> own = new ArrayList<>();
            for (Place p : message.goals) {
                if (s == 0 ? label(p) > label(message.source) : label(p) < label(message.source)) {
                    own.add(p);
                }
            }
            Comparator<Place> rising = Comparator.comparingInt(this::label);
            own.sort(s == 0 ? rising : rising.reversed());
            return own;
        }

        List<Place> way(int i, int s) {
            List<Place> way = new ArrayList<>();
            Place at = messages.get(i).source;
            way.add(at);
            for (Place goal : goals(i, s)) {
                while (!at.equals(goal)) {
                    at = next(at, goal);
                    way.add(at);
                }
            }
            return way;
        }

        List<Channel> channels(int i, int s) {
            List<Place> way = way(i, s);
            List<Channel> all = new ArrayList<>();
            for (int k = 0; k + 1 < way.size(); k++) {
                all.add(new Channel(way.get(k), way.get(k + 1)));
            }
            return all;
        }

        List<Channel> held(int i, int s) {
            Message message = messages.get(i);
            List<Channel> all = channels(i, s);
            List<Channel> held = new ArrayList<>();
            for (int k = 0; k < all.size(); k++) {
                if (k >= message.m[s] - message.length && k < message.m[s]) {
                    held.add(all.get(k));
                }
            }
            return held;
        }

        boolean done(int i, int s) {
            Message message = messages.get(i);
            return goals(i, s).isEmpty() || message.m[s] == channels(i, s).size() + message.length;
        }

        int undone() {
            int open = 0;
            for (int i = 0; i < messages.size(); i++) {
                open += (done(i, 0) ? 0 : 1) + (done(i, 1) ? 0 : 1);
            }
            return open;
        }

        void step() {
            steps++;
            for (int i = 0; i < messages.size(); i++) {
                for (int s = 0; s < 2; s++) {
                    if (!done(i, s)) {
                        moveOrWait(i, s);
                    }
                }
            }
        }

        private void moveOrWait(int i, int s) {
            Message message = messages.get(i);
            List<Channel> all = channels(i, s);
            boolean waits = false;
            if (message.m[s] < all.size()) {
                Channel wanted = all.get(message.m[s]);
                waits = down.contains(wanted);
                for (int j = 0; j < messages.size(); j++) {
                    for (int t = 0; t < 2; t++) {
                        if ((j != i || t != s) && held(j, t).contains(wanted)) {
                            waits = true;
                        }
                    }
                }
            }
            if (waits) {
                message.waited[s]++;
            } else {
                message.m[s]++;
            }
        }
    }

    private State now = new State();
    private final ArrayDeque<State> states = new ArrayDeque<>();
    private final StringBuilder text = new StringBuilder();
    private final int[] refused = new int[3];

    private int answer(int value) {
        if (value <= BAD) {
            refused[BAD - value]++;
        }
        return value;
    }

    private void keep(State state) {
        states.addLast(state);
        if (states.size() > 5) {
            states.removeFirst();
        }
    }

    int order(char letter, int... n) {
        State old = now.copy();
        int value = act(letter, n);
        if (value >= 0) {
            keep(old);
        }
        return answer(value);
    }

    private int act(char letter, int... n) {
        return switch (letter) {
            case 'w' -> actMesh(n[0], n[1]);
            case 'm' -> actMessage(new Place(n[0], n[1]), n[2]);
            case 'g' -> actGoal(n[0], new Place(n[1], n[2]));
            case 't' -> actTurns(new Place(n[0], n[1]), n[2]);
            case 'k' -> actSteps(n[0]);
            default -> actAgain();
        };
    }

    private int actMesh(int w, int h) {
        if (w < 2 || w > 6 || h < 2 || h > 6) {
            return BAD;
        }
        int was = now.w * now.h;
        now = new State();
        now.w = w;
        now.h = h;
        return was;
    }

    private int actMessage(Place p, int l) {
        if (!now.there(p) || l < 1 || l > 9) {
            return BAD;
        }
        if (now.messages.size() == 5) {
            return FULL;
        }
        Message message = new Message();
        message.source = p;
        message.length = l;
        now.messages.add(message);
        return now.messages.size() - 1;
    }

    private int actGoal(int i, Place p) {
        if (noMessage(i) || !now.there(p) || now.messages.get(i).source.equals(p)) {
            return BAD;
        }
        Message message = now.messages.get(i);
        if (message.m[0] != 0 || message.m[1] != 0) {
            return NO;
        }
        if (!message.goals.remove(p)) {
            message.goals.add(p);
        }
        return message.goals.size();
    }

    private boolean noChannel(Place p, int d) {
        return !now.there(p) || d < 0 || d > 3 || !now.there(p.beside(d));
    }

    private int actTurns(Place p, int d) {
        if (noChannel(p, d)) {
            return BAD;
        }
        Channel channel = new Channel(p, p.beside(d));
        if (now.down.remove(channel)) {
            return 1;
        }
        now.down.add(channel);
        return 0;
    }

    private int actSteps(int n) {
        if (n < 1 || n > 200) {
            return BAD;
        }
        for (int k = 0; k < n; k++) {
            now.step();
        }
        return now.undone();
    }

    private int actAgain() {
        int was = now.steps;
        now.steps = 0;
        for (Message message : now.messages) {
            message.m = new int[2];
            message.waited = new int[2];
        }
        return was;
    }

    private boolean noMessage(int i) {
        return i < 0 || i >= now.messages.size();
    }

    private boolean noWorm(int i, int s) {
        return noMessage(i) || s < 0 || s > 1;
    }

    int label(int x, int y) {
        Place p = new Place(x, y);
        return now.there(p) ? now.label(p) : answer(BAD);
    }

    int place(int label) {
        for (Place p : now.places()) {
            if (now.label(p) == label) {
                return p.told();
            }
        }
        return answer(BAD);
    }

    int next(int a, int b, int x, int y) {
        Place u = new Place(a, b);
        Place v = new Place(x, y);
        return !now.there(u) || !now.there(v) || u.equals(v) ? answer(BAD) : now.next(u, v).told();
    }

    int far(int a, int b, int x, int y) {
        Place u = new Place(a, b);
        Place v = new Place(x, y);
        return !now.there(u) || !now.there(v) ? answer(BAD) : now.far(u, v);
    }

    int holds(int x, int y, int d) {
        Place p = new Place(x, y);
        if (noChannel(p, d)) {
            return answer(BAD);
        }
        for (int i = 0; i < now.messages.size(); i++) {
            for (int s = 0; s < 2; s++) {
                if (now.held(i, s).contains(new Channel(p, p.beside(d)))) {
                    return 2 * i + s;
                }
            }
        }
        return NONE;
    }

    int worm(int i, int s, int what) {
        if (noWorm(i, s) || what < 0 || what > 8) {
            return answer(BAD);
        }
        Message message = now.messages.get(i);
        int n = now.channels(i, s).size();
        int head = Math.min(n, message.m[s]);
        List<Place> way = now.way(i, s);
        switch (what) {
            case 0: return now.goals(i, s).size();
            case 1: return n;
            case 2: return message.m[s];
            case 3: return way.get(head).told();
            case 4: {
                int arrived = 0;
                for (Place goal : now.goals(i, s)) {
                    arrived += way.indexOf(goal) <= head ? 1 : 0;
                }
                return arrived;
            }
            case 5: return message.waited[s];
            case 6: return now.done(i, s) ? 1 : 0;
            case 7: return now.held(i, s).size();
            default: {
                List<Channel> both = now.channels(i, s);
                both.retainAll(now.down);
                return both.size();
            }
        }
    }

    int way(int i, int s, int k) {
        if (noWorm(i, s) || k < 0) {
            return answer(BAD);
        }
        List<Place> way = now.way(i, s);
        return k < way.size() ? way.get(k).told() : NONE;
    }

    int goalAt(int i, int s, int k) {
        if (noWorm(i, s) || k < 0) {
            return answer(BAD);
        }
        List<Place> goals = now.goals(i, s);
        return k < goals.size() ? goals.get(k).told() : NONE;
    }

    int of(int i, int what) {
        if (noMessage(i) || what < 0 || what > 5) {
            return answer(BAD);
        }
        Message message = now.messages.get(i);
        switch (what) {
            case 0: return message.source.x;
            case 1: return message.source.y;
            case 2: return message.length;
            case 3: return message.goals.size();
            case 4: return now.channels(i, 0).size() + now.channels(i, 1).size();
            default: {
                int sum = 0;
                for (Place goal : message.goals) {
                    sum += now.far(message.source, goal);
                }
                return sum;
            }
        }
    }

    int when(int i) {
        if (i != NONE && noMessage(i)) {
            return answer(BAD);
        }
        State later = now.copy();
        for (int k = 0; k <= 400; k++) {
            if (i == NONE ? later.undone() == 0 : later.done(i, 0) && later.done(i, 1)) {
                return k;
            }
            later.step();
        }
        return NONE;
    }

    int count(int what) {
        if (what < 0 || what > 7) {
            return answer(BAD);
        }
        int held = 0, waited = 0, done = 0;
        for (int i = 0; i < now.messages.size(); i++) {
            held += now.held(i, 0).size() + now.held(i, 1).size();
            waited += now.messages.get(i).waited[0] + now.messages.get(i).waited[1];
            done += now.done(i, 0) && now.done(i, 1) ? 1 : 0;
        }
        return new int[] {now.w, now.h, now.messages.size(), now.steps, now.down.size(), held, waited, done}[what];
    }

    int type(int c) {
        if (c < 0 || c > 127) {
            return answer(BAD);
        }
        if (text.length() == 120) {
            return answer(FULL);
        }
        text.append((char) c);
        return text.length();
    }

    int clear() {
        int was = text.length();
        text.setLength(0);
        return was;
    }

    int does() {
        int fault = fault();
        if (fault >= 0) {
            return -10 - fault;
        }
        State old = now.copy();
        Matcher orders = ORDER.matcher(text);
        int number = 0;
        while (orders.find()) {
            char letter = 0;
            List<Integer> found = new ArrayList<>();
            for (int g = 1; g <= orders.groupCount(); g++) {
                String part = orders.group(g);
                if (part != null && Character.isDigit(part.charAt(0))) {
                    found.add(Integer.valueOf(part));
                } else if (part != null) {
                    letter = part.charAt(0);
                }
            }
            if (act(letter, found.stream().mapToInt(Integer::intValue).toArray()) < 0) {
                now = old;
                return -1000 - number;
            }
            number++;
        }
        keep(old);
        return number;
    }

    /** The first byte with which no text that could be read can begin; -1: none. */
    private int fault() {
        for (int end = 1; end <= text.length(); end++) {
            Matcher begun = TEXT.matcher(text.substring(0, end));
            if (!begun.matches() && !begun.hitEnd()) {
                return end - 1;
            }
        }
        return TEXT.matcher(text).matches() ? -1 : text.length();
    }

    int back() {
        if (states.isEmpty()) {
            return answer(NO);
        }
        now = states.removeLast();
        return states.size();
    }

    int told(int what) {
        if (what < 0 || what > 4) {
            return answer(BAD);
        }
        return new int[] {refused[0], refused[1], refused[2], text.length(), states.size()}[what];
    }

    long digest() {
        List<Integer> all = new ArrayList<>();
        for (int what = 0; what < 5; what++) {
            all.add(told(what));
        }
        for (int what = 0; what < 8; what++) {
            all.add(count(what));
        }
        for (Place p : now.places()) {
            for (int d = 0; d < 4; d++) {
                all.add(now.down.contains(new Channel(p, p.beside(d))) ? 1 : 0);
            }
        }
        for (int i = 0; i < now.messages.size(); i++) {
            for (int what = 0; what < 6; what++) {
                all.add(of(i, what));
            }
            for (int s = 0; s < 2; s++) {
                for (int what = 0; what < 9; what++) {
                    all.add(worm(i, s, what));
                }
                for (Place p : now.way(i, s)) {
                    all.add(p.told());
                }
            }
        }
        all.add(when(NONE));
        long h = 2806;
        for (int v : all) {
            h = 31 * h + v;
        }
        return h;
    }
}

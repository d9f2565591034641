import java.util.Random;

/** Long runs of calls, the same ones each time, against the plain model. */
public final class ModelTest {
    /** An object is promised for 512 calls; the last thing that a run does may take this many. */
    private static final int RUNS = 200, MOST_AT_ONCE = 123, CALLS = 512 - MOST_AT_ONCE;
    private static final int[] ODD = {Integer.MIN_VALUE, -1000, -2, -1, 4, 5, 6, 7, 9, 10, 36, 120, 128, 200, 201, Integer.MAX_VALUE};

    private final Due due;
    private final Random random;
    private final SnakeMesh mesh = new SnakeMesh();
    private final PlainMesh plain = new PlainMesh();
    private final int run;
    private int calls = 0;

    private ModelTest(Due due, int run) {
        this.due = due;
        this.run = run;
        this.random = new Random(run);
    }

    public static void main(String[] args) {
        Due due = new Due("ModelTest");
        for (int run = 0; run < RUNS; run++) {
            new ModelTest(due, run).go();
        }
        due.end();
    }

    private void go() {
        while (calls < CALLS) {
            int kind = random.nextInt(100);
            if (kind < 45) {
                tellIn();
            } else if (kind < 92) {
                askOut();
            } else {
                writeText();
            }
        }
    }

    private void same(String call, long got, long want) {
        calls++;
        due.is("run " + run + ", call " + calls + ", " + call, got, want);
    }

    private int upTo(int bound) {
        return random.nextInt(40) == 0 ? ODD[random.nextInt(ODD.length)] : random.nextInt(bound);
    }

    private int spot() {
        return upTo(random.nextInt(8) == 0 ? 7 : Math.min(plain.count(0), plain.count(1)));
    }

    private void tellIn() {
        int a = spot(), b = spot(), i = upTo(5), d = upTo(4);
        switch (random.nextInt(30)) {
            case 0:
                int w = random.nextInt(8), h = random.nextInt(8);
                same("mesh(" + w + ", " + h + ")", mesh.mesh(w, h), plain.order('w', w, h));
                break;
            case 1: case 2: case 3: case 4:
                int l = random.nextInt(8) == 0 ? upTo(12) : 1 + random.nextInt(9);
                same("message(" + a + ", " + b + ", " + l + ")", mesh.message(a, b, l), plain.order('m', a, b, l));
                break;
            case 5: case 6: case 7:
                same("turns(" + a + ", " + b + ", " + d + ")", mesh.turns(a, b, d), plain.order('t', a, b, d));
                break;
            case 8: case 9: case 10: case 11: case 12: case 13:
                int n = random.nextInt(12) == 0 ? upTo(203) : upTo(6);
                same("steps(" + n + ")", mesh.steps(n), plain.order('k', n));
                break;
            case 14: case 15:
                same("again()", mesh.again(), plain.order('a'));
                break;
            case 16: case 17:
                same("back()", mesh.back(), plain.back());
                break;
            default:
                same("goal(" + i + ", " + a + ", " + b + ")", mesh.goal(i, a, b), plain.order('g', i, a, b));
                break;
        }
    }

    private void askOut() {
        int a = spot(), b = spot(), x = spot(), y = spot(), i = upTo(4), s = upTo(2), d = upTo(4), k = upTo(12);
        switch (random.nextInt(13)) {
            case 0:
                same("label(" + x + ", " + y + ")", mesh.label(x, y), plain.label(x, y));
                break;
            case 1:
                int label = upTo(36);
                same("place(" + label + ")", mesh.place(label), plain.place(label));
                break;
            case 2:
                same("next(" + a + ", " + b + ", " + x + ", " + y + ")", mesh.next(a, b, x, y), plain.next(a, b, x, y));
                break;
            case 3:
                same("far(" + a + ", " + b + ", " + x + ", " + y + ")", mesh.far(a, b, x, y), plain.far(a, b, x, y));
                break;
            case 4:
                same("holds(" + x + ", " + y + ", " + d + ")", mesh.holds(x, y, d), plain.holds(x, y, d));
                break;
            case 5: case 6:
                int fact = upTo(9);
                same("worm(" + i + ", " + s + ", " + fact + ")", mesh.worm(i, s, fact), plain.worm(i, s, fact));
                break;
            case 7:
                same("way(" + i + ", " + s + ", " + k + ")", mesh.way(i, s, k), plain.way(i, s, k));
                break;
            case 8:
                same("goalAt(" + i + ", " + s + ", " + k + ")", mesh.goalAt(i, s, k), plain.goalAt(i, s, k));
                break;
            case 9:
                int what = upTo(6);
                same("of(" + i + ", " + what + ")", mesh.of(i, what), plain.of(i, what));
                break;
            case 10:
                int j = upTo(5) - 1;
                same("when(" + j + ")", mesh.when(j), plain.when(j));
                break;
            case 11:
                int c = upTo(8), t = upTo(5);
                same("count(" + c + ")", mesh.count(c), plain.count(c));
                same("told(" + t + ")", mesh.told(t), plain.told(t));
                break;
            default:
                same("digest()", mesh.digest(), plain.digest());
                break;
        }
    }

    private void writeText() {
        if (random.nextInt(6) != 0) {
            same("clear()", mesh.clear(), plain.clear());
        }
        String text = someText();
        for (int k = 0; k < Math.min(text.length(), MOST_AT_ONCE - 3); k++) {
            int c = text.charAt(k);
            same("type(" + c + ")", mesh.type(c), plain.type(c));
        }
        same("does()", mesh.does(), plain.does());
        same("digest()", mesh.digest(), plain.digest());
    }

    private String someText() {
        StringBuilder text = new StringBuilder();
        int orders = random.nextInt(5);
        for (int k = 0; k < orders; k++) {
            blanks(text, 0);
            char letter = "mmggggttkka".charAt(random.nextInt(11));
            if (random.nextInt(15) == 0) {
                letter = 'w';
            }
            text.append(letter);
            int due = letter == 'a' ? 0 : letter == 'k' ? 1 : letter == 'w' ? 2 : 3;
            for (int n = 0; n < due; n++) {
                blanks(text, n == 0 ? 0 : 1);
                text.append(letter == 'w' ? 2 + random.nextInt(5) : random.nextInt(30) == 0 ? random.nextInt(1200) : random.nextInt(4));
            }
            blanks(text, 0);
            text.append(';');
        }
        blanks(text, 0);
        if (random.nextInt(3) == 0 && text.length() > 0) {
            int spot = random.nextInt(text.length());
            char c = random.nextInt(4) == 0 ? (char) random.nextInt(128) : " 0;wkag1".charAt(random.nextInt(8));
            switch (random.nextInt(3)) {
                case 0: text.setCharAt(spot, c); break;
                case 1: text.insert(spot, c); break;
                default: text.deleteCharAt(spot); break;
            }
        }
        return text.toString();
    }

    private void blanks(StringBuilder text, int least) {
        int many = least + (random.nextInt(5) == 0 ? random.nextInt(3) : 0);
        for (int k = 0; k < many; k++) {
            text.append(' ');
        }
    }
}

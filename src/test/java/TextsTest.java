/** Promises 19 to 24: texts, states and the digest. */
public final class TextsTest {
    private static final Due DUE = new Due("TextsTest");

    public static void main(String[] args) {
        typeAndClear();
        doesOrders();
        doesWithBlanks();
        doesFaults();
        doesEnds();
        doesLongest();
        back();
        backBringsAll();
        told();
        digest();
        DUE.end();
    }

    private static void typeAndClear() {
        SnakeMesh x = new SnakeMesh();
        DUE.is("20: empty", x.clear(), 0);
        DUE.is("19: byte 0", x.type(0), 1);
        DUE.is("19: byte 127", x.type(127), 2);
        DUE.is("19: byte 128", x.type(128), -2);
        DUE.is("19: byte -1", x.type(-1), -2);
        for (int k = 3; k <= 120; k++) {
            DUE.is("19: byte " + k, x.type(' '), k);
        }
        DUE.is("19: FULL", x.type(' '), -4);
        DUE.is("19: BAD ahead of FULL", x.type(200), -2);
        DUE.is("19: refused BAD", x.told(0), 3);
        DUE.is("19: refused FULL", x.told(2), 1);
        DUE.is("19: no state", x.told(4), 0);
        DUE.is("20: how many", x.clear(), 120);
        DUE.is("20: none then", x.told(3), 0);
        DUE.is("20: no state", x.told(4), 0);
        DUE.is("20: room again", x.type('a'), 1);
    }

    private static int does(SnakeMesh x, String text) {
        Due.write(x, text);
        return x.does();
    }

    private static void doesOrders() {
        SnakeMesh x = new SnakeMesh();
        DUE.is("21: all kinds", does(x, "w3 3;m0 0 2;g0 2 2;m2 2 1;g1 0 0;k3;t0 2 0;a;k1;"), 9);
        DUE.is("21: width", x.count(0), 3);
        DUE.is("21: messages", x.count(2), 2);
        DUE.is("21: STEPS", x.count(3), 1);
        DUE.is("21: down", x.count(4), 1);
        DUE.is("21: moves", x.worm(1, 1, 2), 1);
        DUE.is("21: one state for all", x.told(4), 1);
        DUE.is("21: the text stays", x.told(3), 48);
        DUE.is("21: done once more", x.does(), 9);
        DUE.is("21: back over all", x.back(), 1);
        DUE.is("21: still as done first", x.count(3), 1);
        DUE.is("21: back to the start", x.back(), 0);
        DUE.is("21: width at the start", x.count(0), 4);
    }

    private static void doesWithBlanks() {
        SnakeMesh x = new SnakeMesh();
        DUE.is("21: blanks everywhere", does(x, "  w  5   4  ;  a ; k 1 ;  "), 3);
        DUE.is("21: width", x.count(0), 5);
        DUE.is("21: height", x.count(1), 4);
        DUE.is("21: leading noughts", does(x, "w002 06;"), 1);
        DUE.is("21: width by noughts", x.count(0), 2);
        DUE.is("21: three figures", does(x, "k200;"), 1);
        DUE.is("21: STEPS by three figures", x.count(3), 200);
    }

    private static void doesFaults() {
        String[] texts = {
            "", "   ", "a", "a ", "a;k", "a;k 1", "a;  w3 ", "w3 3",
            "b;", "A;", " ;", ";", "a;;", "a1;", "a 1;", "aa;", "a;x", "a; x",
            "k;", "k ;", "k1234;", "k 0001;", "k1 2;", "k12x;", "k-1;", "k1a;", "k1,",
            "w33;", "w3;", "w3 3 3;", "w 3 3 3;", "w3 3333;", "w1234 1;", "m1 1;", "m1 1 1 1;", "g111 1;", "t1 1 1",
            "k1\t;", "k\u007f", "\0", "a;a;a;1", "k1;2", "k 1 1", "w3:3;", "w3/3;"};
        int[] faults = {
            0, 3, 1, 2, 3, 5, 7, 4,
            0, 0, 1, 0, 2, 1, 2, 1, 2, 3,
            1, 2, 4, 5, 3, 3, 1, 2, 2,
            3, 2, 5, 6, 6, 4, 4, 7, 6, 6,
            2, 1, 0, 6, 3, 4, 2, 2};
        DUE.is("21: as many faults as texts", faults.length, texts.length);
        for (int k = 0; k < texts.length; k++) {
            SnakeMesh x = new SnakeMesh();
            DUE.is("21: text '" + texts[k] + "'", does(x, texts[k]), -10 - faults[k]);
            DUE.is("21: no state, '" + texts[k] + "'", x.told(4), 0);
            DUE.is("21: nothing counts, '" + texts[k] + "'", x.told(0) + x.told(1) + x.told(2), 0);
            DUE.is("21: nothing done, '" + texts[k] + "'", x.count(3), 0);
            DUE.is("21: the text stays, '" + texts[k] + "'", x.told(3), texts[k].length());
        }
        SnakeMesh x = new SnakeMesh();
        DUE.is("21: read whole first", does(x, "k5;w9 9;k5;?"), -21);
        DUE.is("21: nothing done ahead of a fault", x.count(3), 0);
    }

    private static void doesEnds() {
        SnakeMesh x = new SnakeMesh();
        x.mesh(3, 3);
        x.message(0, 0, 1);
        x.goal(0, 2, 2);
        x.turns(2, 2, 3);
        long digest = digestWithText(x, "k2;a;t2 2 3;w2 2;m1 1 1;g0 0 0;m2 2 1;k9;");
        DUE.is("21: refused BAD", x.does(), -1006);
        DUE.is("21: nothing is done", x.digest(), digest);
        DUE.is("21: the way stands", x.way(0, 0, 4), 22);
        digest = digestWithText(x, "k1;g0 1 1;");
        DUE.is("21: refused NO, by what an order did", x.does(), -1001);
        DUE.is("21: nothing is done then", x.digest(), digest);
        digest = digestWithText(x, "m0 0 1;m0 0 1;m0 0 1;m0 0 1;m0 0 1;");
        DUE.is("21: refused FULL", x.does(), -1004);
        DUE.is("21: nothing is done but", x.digest(), digest);
        String[] first = {"w1 4;", "w4 7;", "m3 0 1;", "m0 0 0;", "m0 0 10;", "g1 0 0;", "g0 0 0;", "t0 0 2;", "t0 0 4;", "k0;",
            "k201;", "k999;"};
        for (String text : first) {
            DUE.is("21: first order of " + text, does(x, text), -1000);
        }
        DUE.is("21: nothing counts", x.told(0) + x.told(1) + x.told(2), 0);
        DUE.is("21: no state", x.told(4), 4);
    }

    private static long digestWithText(SnakeMesh x, String text) {
        Due.write(x, text);
        return x.digest();
    }

    private static void doesLongest() {
        DUE.is("21: 60 orders", does(new SnakeMesh(), "a;".repeat(60)), 60);
        DUE.is("21: the last of 120 bytes", does(new SnakeMesh(), "a;".repeat(59) + "a"), -129);
        DUE.is("21: the last of 40 orders", does(new SnakeMesh(), "k1;".repeat(39) + "k0;"), -1039);
        DUE.is("21: 120 blanks", does(new SnakeMesh(), " ".repeat(120)), -130);
        SnakeMesh x = new SnakeMesh();
        DUE.is("21: 4800 steps", does(x, "k200;".repeat(24)), 24);
        DUE.is("21: STEPS", x.count(3), 4800);
    }

    private static void back() {
        SnakeMesh x = new SnakeMesh();
        DUE.is("22: none", x.back(), -3);
        DUE.is("22: NO counted", x.told(1), 1);
        for (int k = 1; k <= 7; k++) {
            x.steps(k);
            DUE.is("22: states behind " + k, x.told(4), Math.min(k, 5));
        }
        int[] steps = {21, 15, 10, 6, 3};
        for (int k = 0; k < 5; k++) {
            DUE.is("22: can be yet, " + k, x.back(), 4 - k);
            DUE.is("22: STEPS, " + k, x.count(3), steps[k]);
        }
        DUE.is("22: older ones lost", x.back(), -3);
        DUE.is("22: stays", x.count(3), 3);
        x.steps(1);
        x.steps(0);
        x.again();
        x.again();
        DUE.is("22: also if nothing becomes other", x.told(4), 3);
        DUE.is("22: first back", x.back(), 2);
        x.turns(0, 0, 0);
        DUE.is("22: others come behind", x.told(4), 3);
        DUE.is("22: down is taken back", x.back() + x.count(4), 2);
    }

    private static void backBringsAll() {
        SnakeMesh x = new SnakeMesh();
        x.mesh(5, 3);
        x.message(0, 0, 3);
        x.goal(0, 4, 2);
        x.turns(0, 1, 1);
        x.steps(4);
        x.turns(0, 0, 1);
        long digest = x.digest();
        x.mesh(2, 2);
        x.message(1, 1, 9);
        x.type('?');
        x.label(9, 9);
        x.back();
        x.back();
        DUE.is("22: width", x.count(0), 5);
        DUE.is("22: messages", x.count(2), 1);
        DUE.is("22: moves", x.worm(0, 0, 2), 1);
        DUE.is("22: waited", x.worm(0, 0, 5), 3);
        DUE.is("22: down", x.count(4), 2);
        DUE.is("22: label by the old width", x.label(0, 1), 9);
        DUE.is("22: way on the old mesh", x.way(0, 0, 1), 1);
        DUE.is("22: the text stays", x.told(3), 1);
        DUE.is("22: how often refused stays", x.told(0), 1);
        DUE.holds("22: the digest knows both", x.digest() != digest);
        x.message(4, 2, 1);
        DUE.is("22: a message behind back() is fresh", x.worm(1, 0, 2) + x.of(1, 3), 0);
    }

    private static void told() {
        SnakeMesh x = new SnakeMesh();
        x.steps(0);
        x.when(7);
        x.told(5);
        x.told(-1);
        x.back();
        for (int k = 0; k < 6; k++) {
            x.message(0, 0, 1);
        }
        x.message(0, 0, 1);
        x.type('a');
        int[] facts = {4, 1, 2, 1, 5};
        for (int what = 0; what < facts.length; what++) {
            DUE.is("23: told(" + what + ")", x.told(what), facts[what]);
        }
        DUE.is("23: what too great", x.told(5), -2);
        DUE.is("23: what below 0", x.told(Integer.MIN_VALUE), -2);
        DUE.is("23: itself counted", x.told(0), 6);
    }

    private static void digest() {
        SnakeMesh x = new SnakeMesh();
        DUE.is("24: a new object", x.digest(), byHand(x));
        x.mesh(3, 4);
        x.message(1, 1, 2);
        x.message(2, 3, 1);
        x.goal(0, 0, 3);
        x.goal(0, 0, 0);
        x.goal(1, 1, 0);
        x.turns(0, 0, 0);
        x.turns(2, 2, 1);
        x.steps(2);
        x.type('w');
        x.back();
        x.steps(3);
        x.goal(0, 2, 2);
        x.label(-1, 0);
        long digest = byHand(x, 0, 221);
        DUE.is("24: with all", x.digest(), digest);
        DUE.is("24: changes nothing", x.digest(), digest);
        x.turns(2, 2, 1);
        x.turns(2, 2, 3);
        DUE.is("24: with others down", x.digest(), byHand(x, 0, 223));
    }

    /** By the public calls. None of them tells which channels are down, so those are given: 100 x + 10 y + d. */
    private static long byHand(SnakeMesh x, int... down) {
        long h = 2806;
        for (int what = 0; what < 5; what++) {
            h = 31 * h + x.told(what);
        }
        for (int what = 0; what < 8; what++) {
            h = 31 * h + x.count(what);
        }
        for (int label = 0; label < x.count(0) * x.count(1); label++) {
            int p = x.place(label);
            for (int d = 0; d < 4; d++) {
                h = 31 * h + (isIn(down, 10 * p + d) ? 1 : 0);
            }
        }
        for (int i = 0; i < x.count(2); i++) {
            for (int what = 0; what < 6; what++) {
                h = 31 * h + x.of(i, what);
            }
            for (int s = 0; s < 2; s++) {
                for (int what = 0; what < 9; what++) {
                    h = 31 * h + x.worm(i, s, what);
                }
                for (int k = 0; k <= x.worm(i, s, 1); k++) {
                    h = 31 * h + x.way(i, s, k);
                }
            }
        }
        return 31 * h + x.when(-1);
    }

    private static boolean isIn(int[] all, int wanted) {
        for (int one : all) {
            if (one == wanted) {
                return true;
            }
        }
        return false;
    }
}

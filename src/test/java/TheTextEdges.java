/** THE TEXT, as the section Terms tells it: how many bytes, which may stand where, what ends too early. */
final class TheTextEdges {
    private static final String[] ORDERS = {"w3 4;", "m1 2 3;", "g0 3 1;", "t1 2 0;", "k7;", "a;"};
    private static Edge edge;

    private TheTextEdges() {
    }

    static void run(Edge given) {
        edge = given;
        lengths();
        figures();
        blanks();
        bytesThatCanStand();
        endsTooEarly();
        numbersTooFewOrMany();
        readWholeFirst();
        refusedOrders();
        lastRightOrders();
    }

    /** One message of 1, 1, so that an order g0 can be done. */
    private static SnakeMesh withText(String text) {
        SnakeMesh x = new SnakeMesh();
        x.message(1, 1, 2);
        Due.write(x, text);
        return x;
    }

    private static String shown(String text) {
        StringBuilder shown = new StringBuilder("'");
        for (char c : text.toCharArray()) {
            shown.append(c < 32 || c > 126 ? "<" + (int) c + ">" : String.valueOf(c));
        }
        return shown.append("'").toString();
    }

    private static void done(String name, String text, int orders) {
        edge.leaves("Terms, TEXT: " + name + ", " + shown(text), () -> withText(text), SnakeMesh::does, orders);
    }

    /** Nothing is done, nothing counts, no state is left, the text stays: the digest is the same. */
    private static void fault(String name, String text, int place) {
        edge.tells("Terms, FAULT: " + name + ", " + shown(text), () -> withText(text), SnakeMesh::does, -10 - place);
    }

    private static void ends(String name, String text, int order) {
        edge.tells("Terms, ORDER: " + name + ", " + shown(text), () -> withText(text), SnakeMesh::does, -1000 - order);
    }

    private static void lengths() {
        fault("empty", "", 0);
        fault("one blank alone", " ", 1);
        fault("blanks alone, full", " ".repeat(120), 120);
        done("two bytes, the shortest", "a;", 1);
        done("120 bytes of orders", "a;".repeat(60), 60);
        done("120 bytes, the last one a blank", "a;".repeat(58) + "k1; ", 59);
        done("120 bytes, one order behind blanks", " ".repeat(118) + "a;", 1);
        fault("119 bytes, ends too early at the last", "a;".repeat(59) + "a", 119);
        fault("120 bytes, ends too early at the full length", "a;".repeat(58) + "k123", 120);
        fault("120 bytes, the last can not stand there", "a;".repeat(59) + "aa", 119);
    }

    /** Each number of each order with 0 to 4 figures. */
    private static void figures() {
        for (String order : ORDERS) {
            for (int at = 1; at < order.length(); at++) {
                if (Character.isDigit(order.charAt(at))) {
                    figuresAt(order, at);
                }
            }
        }
        SnakeMesh x = withText("k200;");
        x.does();
        edge.is("Terms, TEXT: three figures, all count", x.count(3), 200);
        SnakeMesh y = withText("k012;");
        y.does();
        edge.is("Terms, TEXT: three figures, the first may be 0", y.count(3), 12);
        ends("the greatest number of three figures", "k999;", 0);
    }

    private static void figuresAt(String order, int at) {
        String ahead = order.substring(0, at);
        String behind = order.substring(at);
        String which = "the number at " + at + " of " + order;
        fault("no figure, " + which, ahead + behind.substring(1), at + (behind.charAt(1) == ' ' ? noFigureBehindBlank(behind) : 0));
        done("one figure, " + which, ahead + behind, 1);
        done("two figures, " + which, ahead + "0" + behind, 1);
        done("three figures, " + which, ahead + "00" + behind, 1);
        fault("four figures, " + which, ahead + "000" + behind, at + 3);
    }

    /** The number behind takes the place of the one that is not there; the order's end comes too early then. */
    private static int noFigureBehindBlank(String behind) {
        return behind.indexOf(';') - 1;
    }

    private static void blanks() {
        for (String order : ORDERS) {
            for (int at = 0; at <= order.length(); at++) {
                done("a blank at " + at + " of " + order, order.substring(0, at) + " " + order.substring(at), 1);
            }
        }
        done("many blanks wherever one may stand", "  m   1    2   3   ;   a   ;   ", 2);
        done("none but between figures of two numbers", "m1 2 3;a;k1;w2 2;", 4);
        fault("none between figures of two numbers", "w34;", 3);
        fault("a blank within a number, no number more is due", "k1 2;", 3);
        fault("a blank within the last number", "w3 4 5;", 5);
        fault("a tab is no blank", "k\t1;", 1);
        fault("a new line is no blank", "a;\n", 2);
        fault("byte 0 is no blank", "a;\0", 2);
    }

    /** At each spot all 128 bytes: those that can stand there, and the others, which are the fault. */
    private static void bytesThatCanStand() {
        String figures = "0123456789";
        standing("at the start", "", "wmgtka ");
        standing("behind a blank at the start", " ", "wmgtka ");
        standing("behind an order", "a;", "wmgtka ");
        standing("behind the letter of an order with numbers", "k", figures + " ");
        standing("behind the letter of one without", "a", "; ");
        standing("behind one figure of the last number", "k1", figures + "; ");
        standing("behind two figures of the last number", "k12", figures + "; ");
        standing("behind three figures of the last number", "k123", "; ");
        standing("behind a blank behind the last number", "k1 ", "; ");
        standing("behind one figure of a number that is not the last", "w1", figures + " ");
        standing("behind three figures of a number that is not the last", "w123", " ");
        standing("behind a blank behind a number that is not the last", "w1 ", figures + " ");
        standing("behind the second number of three", "t1 2", figures + " ");
    }

    private static void standing(String where, String ahead, String can) {
        int[] got = new int[128];
        int[] want = new int[128];
        for (int c = 0; c < 128; c++) {
            String text = ahead + (char) c;
            got[c] = faultOf(withText(text));
            want[c] = can.indexOf(c) >= 0 ? text.length() : ahead.length();
        }
        edge.are("Terms, FAULT: which bytes can stand " + where, got, want);
    }

    /** Where the text can be done, it has no fault; its length then, as if one more byte were to come. */
    private static int faultOf(SnakeMesh x) {
        int answer = x.does();
        return answer <= -10 && answer > -1000 ? -10 - answer : x.told(3);
    }

    /** Each beginning of a text of all orders: done if it ends with an order, else too early. */
    private static void endsTooEarly() {
        String text = "w4 4; m1 2 3; g0 3 1; t1 2 0; k7; a;";
        int orders = 0;
        for (int length = 1; length <= text.length(); length++) {
            String begun = text.substring(0, length);
            char last = begun.charAt(length - 1);
            if (last == ';') {
                orders++;
            }
            boolean whole = last == ';' || begun.endsWith("; ");
            int answer = whole ? orders : -10 - length;
            SnakeMesh x = withText(begun);
            edge.is("Terms, FAULT: begun " + shown(begun) + (whole ? " is whole" : " ends too early"), x.does(), answer);
        }
    }

    private static void numbersTooFewOrMany() {
        fault("w with one number", "w3;", 2);
        fault("w with three", "w3 4 5;", 5);
        fault("m with two", "m1 2;", 4);
        fault("m with four", "m1 2 3 4;", 7);
        fault("g with two", "g0 3;", 4);
        fault("g with four", "g0 3 1 1;", 7);
        fault("t with two", "t1 2;", 4);
        fault("t with four", "t1 2 0 0;", 7);
        fault("k without", "k;", 1);
        fault("k with two", "k7 1;", 3);
        fault("a with one", "a1;", 1);
        fault("an order without its end, another behind", "k1a;", 2);
        fault("an end without an order", ";", 0);
        fault("an end more", "a;;", 2);
        fault("two letters", "aa;", 1);
        fault("no such letter", "b;", 0);
        fault("a great letter", "A;", 0);
        fault("a sign", "k-1;", 1);
        fault("the byte below the figures", "k/;", 1);
        fault("the byte above the figures", "k:;", 1);
    }

    private static void readWholeFirst() {
        fault("behind an order that would be refused", "k0;?", 3);
        fault("ends too early behind an order that would be refused", "k0;k", 4);
        fault("behind orders that could be done", "k5;m0 0 1;t0 0 0;w2 2;?", 22);
        fault("the first of two", "a;?a;?", 2);
    }

    /** Each order that its call would refuse, alone and behind others whose work is undone. */
    private static void refusedOrders() {
        String[] bad = {"w1 4;", "w4 1;", "w7 4;", "w4 7;", "w0 0;", "m4 0 1;", "m0 4 1;", "m0 0 0;", "m0 0 10;", "g1 0 0;", "g0 4 0;",
            "g0 0 4;", "g0 1 1;", "t4 0 2;", "t0 4 3;", "t0 0 4;", "t3 0 0;", "t0 3 1;", "t0 0 2;", "t0 0 3;", "k0;", "k201;"};
        for (String order : bad) {
            ends("BAD at once", order, 0);
            ends("BAD behind others", "a;k1;t2 2 0;" + order + "k1;", 3);
        }
        ends("NO, since a worm has MOVES by an order ahead", "g0 0 0;k1;g0 2 2;", 2);
        ends("FULL, since orders ahead made five", "m0 0 1;m0 0 1;m0 0 1;m0 0 1;m0 0 1;", 4);
        ends("the first of two", "k1;k0;k0;", 1);
        ends("the last that a text has room for", "a;".repeat(58) + "k0;", 58);
        ends("BAD in a mesh that an order ahead made", "w2 2;m2 0 1;", 1);
        ends("BAD, since a mesh by an order ahead has no messages", "w4 4;g0 0 0;", 1);
    }

    private static void lastRightOrders() {
        String[] right = {"w2 2;", "w6 6;", "m0 0 1;", "m3 3 9;", "g0 0 0;", "g0 3 3;", "t0 0 0;", "t3 3 3;", "t2 0 0;", "t0 2 1;", "k1;",
            "k200;", "a;"};
        for (String order : right) {
            done("the last that is right", order, 1);
        }
        done("NO no more behind again()", "g0 0 0;k1;a;g0 2 2;", 4);
        done("five messages", "m0 0 1;m0 0 1;m0 0 1;m0 0 1;", 4);
        done("right in a mesh that an order ahead made", "w6 6;m5 5 1;g0 4 5;k3;", 4);
    }
}

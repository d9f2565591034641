import java.io.IOException;
import java.nio.file.Files;
import java.nio.file.Path;
import java.util.List;

/** The class keeps the rules of LANGUAGE.md; and a class that breaks one of them is found out. */
public final class RulesTest {
    private static final Due DUE = new Due("RulesTest");

    public static void main(String[] args) throws IOException {
        List<String> faults = Rules.faultsOf(Files.readString(Path.of("src/main/java/SnakeMesh.java")));
        DUE.holds("SnakeMesh keeps the rules, but " + faults, faults.isEmpty());
        rightOnes();
        faces();
        typesAndLibrary();
        words();
        machine();
        loopsAndSizes();
        constructors();
        DUE.end();
    }

    private static String around(String member) {
        return "public final class SnakeMesh {\n" + member + "\n}\n";
    }

    private static void right(String member) {
        List<String> faults = Rules.faultsOf(around(member));
        DUE.holds("no fault of " + member + ", but " + faults, faults.isEmpty());
    }

    private static void wrongFile(int rule, String source) {
        List<String> faults = Rules.faultsOf(source);
        DUE.holds("rule " + rule + " is broken by " + source + ", but found " + faults,
                faults.stream().anyMatch(found -> found.startsWith(rule + " ")));
    }

    private static void wrong(int rule, String member) {
        wrongFile(rule, around(member));
    }

    private static void rightOnes() {
        right("private int half(int n) { return n / 2; }");
        right("private int sum(int[] a) { int s = 0; for (int n : a) { s += Math.max(n, 0); } return s; }");
        right("private int up() { int k = 0; while (k + 1 < 5 && k != 3) { k++; } return k; }");
        right("private static final int N = 2; private static final int[] A = {1, 2}; private final int[][] b = new int[3 * N][N];");
        right("private static final class A { A() { } int n(A other) { return other == null ? 0 : 1; } } private final A a = new A();");
    }

    private static void faces() {
        wrongFile(1, "package p;\npublic final class SnakeMesh { }\n");
        wrongFile(1, "public class SnakeMesh { }\n");
        wrongFile(1, "public final class SnakeMesh { }\nclass Other { }\n");
        wrong(1, "int seen;");
        wrong(1, "public int seen;");
        wrong(1, "void seen() { }");
        wrong(1, "protected void seen() { }");
        wrong(1, "public int far() { return 0; } private int far(int n) { return n; }");
        wrong(1, "public int far() { return 0; } private static final class A { int far() { return 0; } }");
        wrong(1, "public static final class A { }");
        wrong(2, "private final class A { }");
        wrong(2, "private void f() { class A { } }");
        wrong(2, "private static abstract class A { } private final A a = new A() { };");
        wrong(2, "private interface F { int n(int k); } private static final class A { F f = k -> k; }");
        wrong(2, "private interface F { int n(int k); } private static final class A { F f = Math::abs; }");
    }

    private static void typesAndLibrary() {
        wrong(3, "private Object o;");
        wrong(3, "private int[][][] a;");
        wrong(3, "private static final class A { } private A[][] a;");
        wrong(3, "private Integer boxed() { return 1; }");
        wrong(3, "private void f(Thread t) { }");
        wrongFile(4, "import java.util.Random;\npublic final class SnakeMesh { }\n");
        wrongFile(4, "import java.util.*;\npublic final class SnakeMesh { }\n");
        wrong(4, "private long f() { return System.nanoTime(); }");
        wrong(4, "private int f(int n) { return Math.addExact(n, 1); }");
        wrong(4, "private double f() { return StrictMath.random(); }");
        wrong(4, "private void f(boolean[] b) { java.util.Arrays.fill(b, true); }");
        wrong(4, "// a sign above 127: " + (char) 233);
        wrong(5, "private static int n;");
        wrong(5, "private static final int[] A = new int[4];");
        wrong(5, "private static final int[] A = {1}; private void f() { A[0] = 2; }");
        wrong(5, "private static final int[] A = {1}; private void f() { A[0]++; }");
        wrong(5, "private static final int N = 1; static { }");
    }

    private static void words() {
        wrong(6, "private void f() { throw null; }");
        wrong(6, "private void f() { try { f(); } finally { f(); } }");
        wrong(6, "private void f() { synchronized (this) { } }");
        wrong(6, "private synchronized void f() { }");
        wrong(6, "private void f() { assert true; }");
        wrong(6, "private static class A { } private static final class B extends A { } private B f(A a) { return (B) a; }");
        wrong(6, "private static final class A { public String toString() { return null; } }");
    }

    private static void machine() {
        wrong(7, "private int f(int n) { return 1 / n; }");
        wrong(7, "private int f(int n) { return 1 % n; }");
        wrong(7, "private int f(int n) { return n / 0; }");
        wrong(7, "private int f(int n) { n /= n; return n; }");
        wrong(7, "private void f(int n) { int[] a = new int[n]; }");
        wrong(8, "private int f(int n) { return n > 0 ? f(n - 1) : 0; }");
        wrong(8, "private int f(int n) { return g(n); } private int g(int n) { return f(n); }");
        wrong(12, "private void f() { int[] a = new int[3]; }");
        wrong(12, "private static final class A { } private void f() { A a = new A(); }");
    }

    private static void loopsAndSizes() {
        wrong(9, "private void f() { for (;;) { } }");
        wrong(9, "private void f() { while (true) { } }");
        wrong(9, "private void f(int n) { while (n != 0) { n--; } }");
        wrong(9, "private void f(int n, int k) { while (n < 3) { k++; } }");
        wrong(9, "private void f(int n) { while (n < 3 || n > 5) { n++; } }");
        wrong(9, "private void f(int n) { do { n++; } while (g(n)); } private boolean g(int n) { return n < 3; }");
        wrong(11, "private void f(int a, int b, int c, int d, int e, int f, int g, int h) { }");
        wrong(11, "private void f() {" + "\n".repeat(60) + "}");
        wrong(11, "private static final class A { int a" + manyNames(20) + "; }");
        StringBuilder classes = new StringBuilder();
        StringBuilder chain = new StringBuilder("private void f8() { }\n");
        for (int k = 0; k < 12; k++) {
            classes.append("private static final class A").append(k).append(" { }\n");
        }
        for (int k = 0; k < 8; k++) {
            chain.append("private void f").append(k).append("() { f").append(k + 1).append("(); }\n");
        }
        wrong(11, classes.toString());
        wrong(11, chain.toString());
    }

    private static String manyNames(int many) {
        StringBuilder names = new StringBuilder();
        for (int k = 0; k < many; k++) {
            names.append(", a").append(k);
        }
        return names.toString();
    }

    private static void constructors() {
        wrong(12, "private static final class A { A(SnakeMesh x) { } } private final A a = new A(this);");
        wrong(12, "private static final class B { } private static final class A { A(B b) { } } private final B b = new B(); private final A a = new A(b);");
        wrong(12, "private static class A { A() { f(); } void f() { } }");
    }
}

import java.io.IOException;

/** The document once more from its first line: each of its sentences, and runs that show it. */
public final class DocumentTest {
    private static final int PROMISED_CALLS = 512;
    private static final Due DUE = new Due("DocumentTest");
    private static final Sentences DOC = new Sentences(DUE);

    public static void main(String[] args) throws IOException {
        DOC.heading("# SnakeMesh");
        whatItIs();
        howLongItIsUsed();
        face();
        TermsSentences.run(DOC);
        aheadOfCalls();
        PromiseSentences.run(DOC);
        notPromised();
        DOC.end();
        DUE.end();
    }

    private static void whatItIs() {
        DOC.heading("## What it is");
        DOC.says("Copies through a mesh along one line: places labelled to and fro, row by row;");
        SnakeMesh x = DOC.by("w3 3;");
        int[] line = new int[9];
        for (int label = 0; label < 9; label++) {
            line[label] = x.place(label);
        }
        DOC.are("the line", line, 0, 10, 20, 21, 11, 1, 2, 12, 22);
        DOC.says("goals of a message parted into those above and those below its source, gone through in order, two worms, "
                + "each from place to place by labels alone;");
        x = DOC.by("w3 3;m1 1 2;g0 2 2;g0 0 1;g0 0 0;g0 2 1;");
        DOC.are("goals above", new int[] {x.goalAt(0, 0, 0), x.goalAt(0, 0, 1), x.goalAt(0, 0, 2)}, 1, 22, -1);
        DOC.are("goals below", new int[] {x.goalAt(0, 1, 0), x.goalAt(0, 1, 1), x.goalAt(0, 1, 2)}, 21, 0, -1);
        DOC.are("way above", TermsSentences.way(x, 0, 0), 11, 1, 2, 12, 22);
        DOC.are("way below", TermsSentences.way(x, 0, 1), 11, 21, 20, 10, 0);
        DOC.says("channels held by the length of a worm, waited for, down;");
        SnakeMesh held = DOC.by("w4 2;m0 0 2;g0 3 0;m0 0 1;g1 1 0;t2 0 0;k3;");
        DOC.are("held", new int[] {held.holds(0, 0, 0), held.holds(1, 0, 0), held.holds(2, 0, 0)}, 0, 0, -1);
        DOC.is("waited for what is down", held.worm(0, 0, 5), 1);
        DOC.is("waited for what is held", held.worm(1, 0, 5), 3);
        DOC.is("down", held.count(4), 1);
        DOC.says("runs step by step, how long they take yet;");
        SnakeMesh run = DOC.by("w4 2;m0 0 2;g0 3 0;");
        DOC.are("before, and as it goes", new int[] {run.when(0), run.steps(2), run.when(0), run.steps(3), run.when(0)}, 5, 1, 3, 0, 0);
        DOC.says("how far a worm goes, what it passes, against what the straight ways would take;");
        DOC.is("how far", x.worm(0, 0, 1) + x.worm(0, 1, 1), 8);
        DOC.is("what it passes", x.way(0, 0, 3), 12);
        DOC.is("the straight ways", x.of(0, 5), 6);
        DOC.says("told in a text, taken back.");
        DOC.is("told", DOC.doing(x, "k1;w2 2;"), 2);
        DOC.is("done", x.count(0), 2);
        DOC.is("taken back", x.back() * 10 + x.count(0), 13);
    }

    private static void howLongItIsUsed() {
        DOC.says("======== 1 A MESH of W by H PLACES (2 ..");
        DOC.is("2 by 2", new SnakeMesh().mesh(2, 2), 16);
        DOC.refuses(SnakeMesh.BAD, SnakeMesh::new, x -> x.mesh(1, 2), x -> x.mesh(2, 1));
        DOC.says("An object is used for at most 512 calls after it has been made; what later calls answer is free.");
        SnakeMesh x = new SnakeMesh();
        for (int k = 1; k < PROMISED_CALLS; k++) {
            x.steps(1);
        }
        DOC.is("the last promised call", x.count(3), PROMISED_CALLS - 1);
        // LANGUAGE.md, rule 7: whatever they answer, later calls throw nothing and come to an end.
        int later = 0;
        for (int k = 0; k < 8 * PROMISED_CALLS; k++) {
            anyCall(x, k % 23, k / 23 % 9 - 2, k / 7 % 5 - 1, k / 3 % 8 - 1);
            later++;
        }
        DOC.is("later calls come back", later, 8 * PROMISED_CALLS);
    }

    private static long anyCall(SnakeMesh x, int call, int a, int b, int c) {
        switch (call) {
            case 0: return x.mesh(a, b);
            case 1: return x.message(a, b, c);
            case 2: return x.goal(a, b, c);
            case 3: return x.turns(a, b, c);
            case 4: return x.steps(a * 40);
            case 5: return x.again();
            case 6: return x.label(a, b);
            case 7: return x.place(a * 7 + b);
            case 8: return x.next(a, b, b, c);
            case 9: return x.far(a, b, b, c);
            case 10: return x.holds(a, b, c);
            case 11: return x.worm(a, b, c);
            case 12: return x.way(a, b, c);
            case 13: return x.goalAt(a, b, c);
            case 14: return x.of(a, b);
            case 15: return x.when(a);
            case 16: return x.count(a);
            case 17: return x.type("a;k1 m".charAt(a + 2 < 6 ? a + 2 : 0));
            case 18: return a == 0 ? x.clear() : x.told(3);
            case 19: return x.does();
            case 20: return x.back();
            case 21: return x.told(a);
            default: return x.digest();
        }
    }

    /** FaceTest holds the class against these lines. */
    private static void face() {
        DOC.heading("## The public face");
        DOC.says("public final class SnakeMesh {");
        DOC.is("public and final", SnakeMesh.class.getModifiers(), java.lang.reflect.Modifier.PUBLIC | java.lang.reflect.Modifier.FINAL);
        DOC.says(FaceTest.CONSTANTS);
        DOC.are("constants", new int[] {SnakeMesh.NONE, SnakeMesh.BAD, SnakeMesh.NO, SnakeMesh.FULL}, -1, -2, -3, -4);
        DOC.says(FaceTest.CONSTRUCTOR);
        DOC.is("constructors", SnakeMesh.class.getConstructors().length, 1);
        for (String line : FaceTest.METHODS) {
            DOC.says(line);
            DOC.is("is one public method", publicMethods(FaceTest.nameOf(line)), 1);
        }
        DOC.heading("}");
    }

    private static int publicMethods(String name) {
        int found = 0;
        for (java.lang.reflect.Method method : SnakeMesh.class.getMethods()) {
            found += method.getName().equals(name) ? 1 : 0;
        }
        return found;
    }

    /** FaceTest holds the source against these words. */
    private static void aheadOfCalls() {
        DOC.heading("Ahead of the calls `mesh`, `message`, `goal`, `turns`, `steps`, `again` the interface says: ---- what is told in.");
        DOC.heading("Ahead of the calls `label`, `place`, `next`, `far`, `holds` the interface says: ---- the mesh.");
        DOC.heading("Ahead of the calls `worm`, `way`, `goalAt`, `of`, `when`, `count` the interface says: ---- worms.");
        DOC.heading("Ahead of the calls `type`, `clear`, `does`, `back`, `told`, `digest` the interface says: ---- texts.");
    }

    private static void notPromised() {
        DOC.heading("## Not promised");
        DOC.heading("How the state is held inside the object is free, as are the speed of each call, the text of toString and the behaviour "
                + "of equals and hashCode.");
        DOC.heading("Use of one object from several threads at once is not promised to be safe.");
        DOC.says("Nothing is promised beyond the answers and state changes described above, and nothing about an object after its 512th call.");
        // Two objects, one used between the calls of the other, answer as one alone: nothing is shared.
        SnakeMesh alone = DOC.by("w5 5;m0 0 3;g0 4 4;k4;");
        SnakeMesh one = new SnakeMesh();
        SnakeMesh other = new SnakeMesh();
        for (char c : "w5 5;m0 0 3;g0 4 4;k4;".toCharArray()) {
            one.type(c);
            other.type('a');
            other.steps(1);
            other.turns(0, 0, 0);
        }
        one.does();
        other.mesh(2, 2);
        one.clear();
        DOC.is("no other state changes", one.digest(), alone.digest());
    }
}

import java.io.IOException;
import java.lang.reflect.Constructor;
import java.lang.reflect.Field;
import java.lang.reflect.Method;
import java.lang.reflect.Modifier;
import java.nio.file.Files;
import java.nio.file.Path;
import java.util.Arrays;
import java.util.Set;
import java.util.TreeSet;

/** The class's face is the document's: its lines, in their order, each under the words ahead of it. */
public final class FaceTest {
    static final String CONSTANTS = "public static final int NONE = -1, BAD = -2, NO = -3, FULL = -4;";
    static final String CONSTRUCTOR = "public SnakeMesh();";
    static final String[] METHODS = {
        "public int mesh(int w, int h);", "public int message(int x, int y, int l);", "public int goal(int i, int x, int y);",
        "public int turns(int x, int y, int d);", "public int steps(int n);", "public int again();",
        "public int label(int x, int y);", "public int place(int label);", "public int next(int a, int b, int x, int y);",
        "public int far(int a, int b, int x, int y);", "public int holds(int x, int y, int d);",
        "public int worm(int i, int s, int what);", "public int way(int i, int s, int k);", "public int goalAt(int i, int s, int k);",
        "public int of(int i, int what);", "public int when(int i);", "public int count(int what);",
        "public int type(int c);", "public int clear();", "public int does();", "public int back();", "public int told(int what);",
        "public long digest();"};
    /** The words ahead of calls, and the first call behind each of them. */
    static final String[][] AHEAD = {
        {"---- what is told in", "mesh"}, {"---- the mesh", "label"}, {"---- worms", "worm"}, {"---- texts", "type"}};

    private static final Due DUE = new Due("FaceTest");

    public static void main(String[] args) throws IOException {
        theClass();
        constants();
        methods();
        order(Files.readString(Path.of("src/main/java/SnakeMesh.java")));
        DUE.end();
    }

    private static void theClass() {
        Class<?> type = SnakeMesh.class;
        DUE.holds("public and final", Modifier.isPublic(type.getModifiers()) && Modifier.isFinal(type.getModifiers()));
        DUE.holds("without a package", type.getPackageName().isEmpty());
        DUE.holds("it extends nothing", type.getSuperclass() == Object.class && type.getInterfaces().length == 0);
        Constructor<?>[] constructors = type.getDeclaredConstructors();
        DUE.is("constructors", constructors.length, 1);
        DUE.holds("a public one, without arguments",
                Modifier.isPublic(constructors[0].getModifiers()) && constructors[0].getParameterCount() == 0);
        for (Class<?> inside : type.getDeclaredClasses()) {
            int m = inside.getModifiers();
            DUE.holds(inside + " is static and not public", Modifier.isStatic(m) && !Modifier.isPublic(m) && !Modifier.isProtected(m));
        }
    }

    private static void constants() {
        Set<String> open = new TreeSet<>();
        for (Field field : SnakeMesh.class.getDeclaredFields()) {
            int m = field.getModifiers();
            DUE.holds(field + ", if static, is final", !Modifier.isStatic(m) || Modifier.isFinal(m));
            if (!Modifier.isPrivate(m)) {
                open.add(Modifier.toString(m) + " " + field.getType() + " " + field.getName());
            }
        }
        Set<String> want = new TreeSet<>();
        for (String name : new String[] {"NONE", "BAD", "NO", "FULL"}) {
            want.add("public static final int " + name);
        }
        DUE.holds("constants " + open, open.equals(want));
        DUE.is("NONE", SnakeMesh.NONE, -1);
        DUE.is("BAD", SnakeMesh.BAD, -2);
        DUE.is("NO", SnakeMesh.NO, -3);
        DUE.is("FULL", SnakeMesh.FULL, -4);
    }

    private static void methods() {
        Set<String> open = new TreeSet<>();
        for (Method method : SnakeMesh.class.getDeclaredMethods()) {
            if (!Modifier.isPrivate(method.getModifiers()) && !method.isSynthetic()) {
                String types = Arrays.toString(method.getParameterTypes()).replaceAll("[\\[\\]]", "");
                open.add(Modifier.toString(method.getModifiers()) + " " + method.getReturnType() + " " + method.getName() + "(" + types + ");");
                DUE.is(method + " tells of no exceptions", method.getExceptionTypes().length, 0);
            }
        }
        Set<String> want = new TreeSet<>();
        for (String line : METHODS) {
            want.add(line.replaceAll("int \\w+(?=[,)])", "int"));
        }
        DUE.holds("methods " + open + ", due are " + want, open.equals(want));
    }

    static String nameOf(String line) {
        return line.replaceAll("^public \\w+ (\\w+)\\(.*", "$1");
    }

    /** The lines of the document stand in the source one behind the other, with the names of their numbers. */
    private static void order(String source) {
        int at = source.indexOf(CONSTANTS);
        DUE.holds("the constants' line", at >= 0);
        at = follows(source, at, CONSTRUCTOR.replace(";", " {"));
        for (String line : METHODS) {
            for (String[] ahead : AHEAD) {
                if (ahead[1].equals(nameOf(line))) {
                    at = follows(source, at, "// " + ahead[0] + "\n");
                }
            }
            at = follows(source, at, line.replace(";", " {"));
        }
    }

    private static int follows(String source, int from, String line) {
        int at = source.indexOf(line, Math.max(from, 0));
        DUE.holds("in its order: " + line, at >= 0);
        return Math.max(at, from);
    }
}

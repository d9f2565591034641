import java.io.IOException;
import java.lang.reflect.Constructor;
import java.lang.reflect.Field;
import java.lang.reflect.Method;
import java.lang.reflect.Modifier;
import java.nio.file.Files;
import java.nio.file.Path;
import java.util.Arrays;
import java.util.Set;
import java.util.TreeSet;
import java.util.regex.Matcher;
import java.util.regex.Pattern;

/** The class's face is the document's, and the rules of LANGUAGE.md that a test can see are kept. */
public final class FaceTest {
    private static final Due DUE = new Due("FaceTest");
    private static final String[] METHODS = {
        "int mesh 2", "int message 3", "int goal 3", "int turns 3", "int steps 1", "int again 0", "int label 2", "int place 1",
        "int next 4", "int far 4", "int holds 3", "int worm 3", "int way 3", "int goalAt 3", "int of 2", "int when 1",
        "int count 1", "int type 1", "int clear 0", "int does 0", "int back 0", "int told 1", "long digest 0"};

    public static void main(String[] args) throws IOException {
        face();
        names();
        words(Files.readString(Path.of("src/main/java/SnakeMesh.java")));
        DUE.end();
    }

    private static void face() {
        Class<?> type = SnakeMesh.class;
        DUE.holds("public and final", Modifier.isPublic(type.getModifiers()) && Modifier.isFinal(type.getModifiers()));
        Constructor<?>[] constructors = type.getDeclaredConstructors();
        DUE.is("constructors", constructors.length, 1);
        DUE.holds("a public one", Modifier.isPublic(constructors[0].getModifiers()) && constructors[0].getParameterCount() == 0);
        Set<String> open = new TreeSet<>();
        for (Method method : type.getDeclaredMethods()) {
            if (!Modifier.isPrivate(method.getModifiers()) && !method.isSynthetic()) {
                DUE.holds(method + " is public", Modifier.isPublic(method.getModifiers()));
                open.add(method.getReturnType() + " " + method.getName() + " " + method.getParameterCount());
            }
        }
        DUE.holds("methods " + open, open.equals(new TreeSet<>(Arrays.asList(METHODS))));
        Set<String> constants = new TreeSet<>();
        for (Field field : type.getDeclaredFields()) {
            int m = field.getModifiers();
            DUE.holds(field + ", if static, is final", !Modifier.isStatic(m) || Modifier.isFinal(m));
            if (!Modifier.isPrivate(m)) {
                constants.add(field.getName());
            }
        }
        DUE.holds("constants " + constants, constants.equals(new TreeSet<>(Arrays.asList("NONE", "BAD", "NO", "FULL"))));
    }

    private static void names() {
        Set<String> open = new TreeSet<>();
        for (String method : METHODS) {
            open.add(method.split(" ")[1]);
        }
        for (Method method : SnakeMesh.class.getDeclaredMethods()) {
            DUE.holds(method + " has a name of its own",
                    Modifier.isPublic(method.getModifiers()) || !open.contains(method.getName()));
        }
        DUE.holds("at most twelve classes", SnakeMesh.class.getDeclaredClasses().length < 12);
        for (Class<?> inside : SnakeMesh.class.getDeclaredClasses()) {
            DUE.holds(inside + " is static", Modifier.isStatic(inside.getModifiers()));
            DUE.holds(inside + " has few fields", inside.getDeclaredFields().length <= 20);
            for (Method method : inside.getDeclaredMethods()) {
                DUE.holds(method + " has a name of its own", !open.contains(method.getName()));
                DUE.holds(method + " takes seven at most", method.getParameterCount() <= 7);
            }
        }
    }

    private static void words(String source) {
        String code = source.replaceAll("(?s)/\\*.*?\\*/", " ").replaceAll("//[^\n]*", " ");
        String ruledOut = "throw|throws|try|catch|finally|synchronized|assert|package|Object|System\\.(?!arraycopy)\\w+|"
                + "Math\\.\\w+Exact|Random|Thread";
        Matcher found = Pattern.compile("\\b(?:" + ruledOut + ")\\b|->|::").matcher(code);
        String word = found.find() ? found.group() : "";
        DUE.holds("nothing that is ruled out, but '" + word + "'", word.isEmpty());
        Matcher imports = Pattern.compile("import ([\\w.*]+);").matcher(code);
        while (imports.find()) {
            DUE.holds("import " + imports.group(1), Set.of("java.util.Arrays", "java.util.ArrayList", "java.util.List")
                    .contains(imports.group(1)));
        }
        DUE.holds("no sign above 127", source.chars().allMatch(c -> c < 128));
    }
}

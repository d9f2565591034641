import com.sun.source.tree.*;
import com.sun.source.util.JavacTask;
import com.sun.source.util.TreePath;
import com.sun.source.util.TreePathScanner;
import com.sun.source.util.TreeScanner;
import com.sun.source.util.Trees;
import java.io.IOException;
import java.net.URI;
import java.util.ArrayList;
import java.util.HashMap;
import java.util.HashSet;
import java.util.LinkedHashSet;
import java.util.List;
import java.util.Map;
import java.util.Set;
import javax.lang.model.element.Element;
import javax.lang.model.element.ElementKind;
import javax.lang.model.element.ExecutableElement;
import javax.lang.model.element.Modifier;
import javax.lang.model.element.TypeElement;
import javax.lang.model.element.VariableElement;
import javax.lang.model.type.ArrayType;
import javax.lang.model.type.DeclaredType;
import javax.lang.model.type.TypeKind;
import javax.lang.model.type.TypeMirror;
import javax.tools.JavaCompiler;
import javax.tools.SimpleJavaFileObject;
import javax.tools.ToolProvider;

/**
 * What of LANGUAGE.md can be seen in a source: each fault begins with its rule's number.
 *
 * Where a rule leaves room that the class does not use, this is narrower than the rule: no lists, no
 * texts, no recursion, no casts between classes, and nothing made but by constructors.
 */
final class Rules extends TreePathScanner<Void, Void> {
    private static final int MOST_PARAMETERS = 7, MOST_LINES = 60, MOST_DEPTH = 8, MOST_CLASSES = 12, MOST_FIELDS = 20;
    private static final Set<String> LIBRARY = Set.of("java.lang.System.arraycopy", "java.util.Arrays.fill", "java.util.Arrays.copyOf",
            "java.util.Arrays.copyOfRange");
    private static final Set<String> NUMBERS = Set.of("java.lang.Integer", "java.lang.Long", "java.lang.Math");
    private static final Set<String> NAMES_OF_ALL = Set.of("equals", "hashCode", "toString");
    private static final Set<Tree.Kind> COMPARISONS =
            Set.of(Tree.Kind.LESS_THAN, Tree.Kind.LESS_THAN_EQUAL, Tree.Kind.GREATER_THAN, Tree.Kind.GREATER_THAN_EQUAL);
    private static final Set<Tree.Kind> COUNTING = Set.of(Tree.Kind.POSTFIX_INCREMENT, Tree.Kind.POSTFIX_DECREMENT,
            Tree.Kind.PREFIX_INCREMENT, Tree.Kind.PREFIX_DECREMENT, Tree.Kind.PLUS_ASSIGNMENT, Tree.Kind.MINUS_ASSIGNMENT);

    private final List<String> faults = new ArrayList<>();
    private final Map<Element, Set<Element>> calls = new HashMap<>();
    private final Set<String> publicNames = new HashSet<>();
    private Trees trees;
    private CompilationUnitTree unit;
    private int classes = 0;

    /** All faults of a source that compiles. */
    static List<String> faultsOf(String source) {
        Rules rules = new Rules();
        rules.read(source);
        return rules.faults;
    }

    private void read(String source) {
        JavaCompiler compiler = ToolProvider.getSystemJavaCompiler();
        SimpleJavaFileObject file = new SimpleJavaFileObject(URI.create("string:///SnakeMesh.java"), javax.tools.JavaFileObject.Kind.SOURCE) {
            @Override
            public CharSequence getCharContent(boolean ignore) {
                return source;
            }
        };
        List<String> wrong = new ArrayList<>();
        JavacTask task = (JavacTask) compiler.getTask(null, null, d -> wrong.add(d.toString()), List.of("-proc:none"), null, List.of(file));
        try {
            unit = task.parse().iterator().next();
            task.analyze();
        } catch (IOException e) {
            wrong.add(e.toString());
        }
        trees = Trees.instance(task);
        faults.addAll(wrong);
        if (wrong.isEmpty()) {
            file();
            scan(unit, null);
            depths();
        }
        if (!source.chars().allMatch(c -> c == '\n' || c >= 32 && c < 127)) {
            faults.add("4 a sign that is not 32 to 126");
        }
    }

    private void fault(int rule, String what, Tree at) {
        long spot = trees.getSourcePositions().getStartPosition(unit, at);
        faults.add(rule + " " + what + ", line " + unit.getLineMap().getLineNumber(spot));
    }

    private void file() {
        if (unit.getPackage() != null) {
            fault(1, "a package line", unit);
        }
        if (unit.getTypeDecls().size() != 1) {
            fault(1, "another class beside the one", unit);
        }
        for (ImportTree line : unit.getImports()) {
            String name = line.getQualifiedIdentifier().toString();
            if (line.isStatic() || !Set.of("java.util.Arrays", "java.util.ArrayList", "java.util.List").contains(name)) {
                fault(4, "import " + name, line);
            }
        }
        for (Tree member : ((ClassTree) unit.getTypeDecls().get(0)).getMembers()) {
            boolean named = member instanceof MethodTree method && method.getReturnType() != null;
            if (named && ((MethodTree) member).getModifiers().getFlags().contains(Modifier.PUBLIC)) {
                publicNames.add(((MethodTree) member).getName().toString());
            }
        }
    }

    private Element here() {
        return trees.getElement(getCurrentPath());
    }

    private Element elementOf(Tree tree) {
        return trees.getElement(new TreePath(getCurrentPath(), tree));
    }

    private TypeMirror typeOf(Tree tree) {
        return trees.getTypeMirror(new TreePath(getCurrentPath(), tree));
    }

    private boolean isOwn(Element element) {
        for (Element at = element; at != null; at = at.getEnclosingElement()) {
            if (at.equals(elementOf(unit.getTypeDecls().get(0)))) {
                return true;
            }
        }
        return false;
    }

    // ---- classes and their members

    @Override
    public Void visitClass(ClassTree tree, Void none) {
        classes++;
        if (classes == MOST_CLASSES + 1) {
            fault(11, "more than twelve classes", tree);
        }
        Element element = here();
        Set<Modifier> flags = element.getModifiers();
        if (getCurrentPath().getParentPath().getLeaf() instanceof CompilationUnitTree) {
            if (!flags.contains(Modifier.PUBLIC) || !flags.contains(Modifier.FINAL)) {
                fault(1, "the class is not public and final", tree);
            }
        } else {
            nested(tree, flags);
        }
        members(tree);
        return super.visitClass(tree, none);
    }

    private void nested(ClassTree tree, Set<Modifier> flags) {
        if (flags.contains(Modifier.PUBLIC) || flags.contains(Modifier.PROTECTED)) {
            fault(1, "a class inside that is not private or package-visible", tree);
        }
        boolean inClass = getCurrentPath().getParentPath().getLeaf() instanceof ClassTree;
        if (!inClass || !flags.contains(Modifier.STATIC)) {
            fault(2, "a class inside that is not static", tree);
        }
    }

    private void members(ClassTree tree) {
        int fields = 0;
        for (Tree member : tree.getMembers()) {
            if (member instanceof BlockTree block && block.isStatic()) {
                fault(5, "a static initialiser", block);
            }
            if (member instanceof VariableTree field) {
                boolean isStatic = field.getModifiers().getFlags().contains(Modifier.STATIC);
                fields += isStatic ? 0 : 1;
                field(field, isStatic);
            }
        }
        if (fields > MOST_FIELDS) {
            fault(11, "more than twenty fields", tree);
        }
    }

    private void field(VariableTree field, boolean isStatic) {
        Set<Modifier> flags = field.getModifiers().getFlags();
        boolean outer = getCurrentPath().getParentPath().getLeaf() instanceof CompilationUnitTree;
        boolean constant = isStatic && flags.contains(Modifier.FINAL);
        if (outer && !flags.contains(Modifier.PRIVATE) && !(flags.contains(Modifier.PUBLIC) && constant)) {
            fault(1, "a field that can be seen", field);
        }
        if (isStatic) {
            Object value = ((VariableElement) elementOf(field)).getConstantValue();
            boolean writtenOut = field.getInitializer() instanceof NewArrayTree array && array.getInitializers() != null;
            if (!constant || value == null && !writtenOut) {
                fault(5, "a static field that is no constant", field);
            }
        }
    }

    @Override
    public Void visitMethod(MethodTree tree, Void none) {
        Element method = here();
        calls.putIfAbsent(method, new LinkedHashSet<>());
        String name = tree.getName().toString();
        Set<Modifier> flags = tree.getModifiers().getFlags();
        boolean outer = getCurrentPath().getParentPath().getParentPath().getLeaf() instanceof CompilationUnitTree;
        if (outer && !flags.contains(Modifier.PUBLIC) && !flags.contains(Modifier.PRIVATE)) {
            fault(1, "a method that can be seen: " + name, tree);
        }
        if (!(outer && flags.contains(Modifier.PUBLIC)) && publicNames.contains(name)) {
            fault(1, "the name of a public method: " + name, tree);
        }
        if (NAMES_OF_ALL.contains(name)) {
            fault(6, "a method " + name, tree);
        }
        if (tree.getParameters().size() > MOST_PARAMETERS) {
            fault(11, "more than seven parameters: " + name, tree);
        }
        if (linesOf(tree) > MOST_LINES) {
            fault(11, "more than sixty lines: " + name, tree);
        }
        if (tree.getReturnType() != null) {
            checkType(tree.getReturnType());
        }
        return super.visitMethod(tree, none);
    }

    private long linesOf(Tree tree) {
        long first = trees.getSourcePositions().getStartPosition(unit, tree);
        long last = trees.getSourcePositions().getEndPosition(unit, tree);
        return last < 0 ? 0 : unit.getLineMap().getLineNumber(last) - unit.getLineMap().getLineNumber(first) + 1;
    }

    // ---- types

    @Override
    public Void visitVariable(VariableTree tree, Void none) {
        checkType(tree.getType());
        return super.visitVariable(tree, none);
    }

    private void checkType(Tree tree) {
        if (tree == null || !isAllowed(typeOf(tree), 0)) {
            fault(3, "a type that is not listed: " + tree, unit);
        }
    }

    private boolean isAllowed(TypeMirror type, int dimensions) {
        if (type instanceof ArrayType array) {
            return isAllowed(array.getComponentType(), dimensions + 1);
        }
        if (type instanceof DeclaredType declared) {
            return isOwn(declared.asElement()) && dimensions < 2;
        }
        return type != null && (type.getKind().isPrimitive() && dimensions <= 2 || type.getKind() == TypeKind.VOID);
    }

    // ---- what is ruled out wherever it stands

    @Override
    public Void visitLambdaExpression(LambdaExpressionTree tree, Void none) {
        fault(2, "a lambda", tree);
        return super.visitLambdaExpression(tree, none);
    }

    @Override
    public Void visitMemberReference(MemberReferenceTree tree, Void none) {
        fault(2, "a method reference", tree);
        return super.visitMemberReference(tree, none);
    }

    @Override
    public Void visitThrow(ThrowTree tree, Void none) {
        fault(6, "throw", tree);
        return super.visitThrow(tree, none);
    }

    @Override
    public Void visitTry(TryTree tree, Void none) {
        fault(6, "try", tree);
        return super.visitTry(tree, none);
    }

    @Override
    public Void visitSynchronized(SynchronizedTree tree, Void none) {
        fault(6, "synchronized", tree);
        return super.visitSynchronized(tree, none);
    }

    @Override
    public Void visitModifiers(ModifiersTree tree, Void none) {
        if (tree.getFlags().contains(Modifier.SYNCHRONIZED)) {
            fault(6, "synchronized", tree);
        }
        return super.visitModifiers(tree, none);
    }

    @Override
    public Void visitAssert(AssertTree tree, Void none) {
        fault(6, "assert", tree);
        return super.visitAssert(tree, none);
    }

    @Override
    public Void visitTypeCast(TypeCastTree tree, Void none) {
        if (!typeOf(tree.getType()).getKind().isPrimitive()) {
            fault(6, "a cast between classes", tree);
        }
        return super.visitTypeCast(tree, none);
    }

    @Override
    public Void visitLiteral(LiteralTree tree, Void none) {
        if (tree.getKind() == Tree.Kind.STRING_LITERAL) {
            fault(3, "a text", tree);
        }
        return super.visitLiteral(tree, none);
    }

    // ---- divisors, lengths, and what is made

    private static boolean isNumber(Tree divisor, Element element) {
        boolean named = element instanceof VariableElement constant && constant.getConstantValue() instanceof Number n && n.intValue() != 0;
        return named || divisor instanceof LiteralTree literal && literal.getValue() instanceof Number n && n.intValue() != 0;
    }

    private boolean isConstant(Tree tree) {
        if (tree.getKind() == Tree.Kind.MULTIPLY) {
            return isConstant(((BinaryTree) tree).getLeftOperand()) && isConstant(((BinaryTree) tree).getRightOperand());
        }
        return isNumber(tree, tree instanceof LiteralTree ? null : elementOf(tree));
    }

    @Override
    public Void visitBinary(BinaryTree tree, Void none) {
        boolean divides = tree.getKind() == Tree.Kind.DIVIDE || tree.getKind() == Tree.Kind.REMAINDER;
        if (divides && !isConstant(tree.getRightOperand())) {
            fault(7, "a divisor that is not a number", tree);
        }
        return super.visitBinary(tree, none);
    }

    @Override
    public Void visitCompoundAssignment(CompoundAssignmentTree tree, Void none) {
        boolean divides = tree.getKind() == Tree.Kind.DIVIDE_ASSIGNMENT || tree.getKind() == Tree.Kind.REMAINDER_ASSIGNMENT;
        if (divides && !isConstant(tree.getExpression())) {
            fault(7, "a divisor that is not a number", tree);
        }
        changesConstant(tree.getVariable());
        return super.visitCompoundAssignment(tree, none);
    }

    @Override
    public Void visitAssignment(AssignmentTree tree, Void none) {
        changesConstant(tree.getVariable());
        return super.visitAssignment(tree, none);
    }

    @Override
    public Void visitUnary(UnaryTree tree, Void none) {
        if (COUNTING.contains(tree.getKind())) {
            changesConstant(tree.getExpression());
        }
        return super.visitUnary(tree, none);
    }

    private void changesConstant(Tree target) {
        if (target instanceof ArrayAccessTree access) {
            Element array = elementOf(access.getExpression());
            if (array != null && array.getModifiers().contains(Modifier.STATIC)) {
                fault(5, "a written out array that is changed", target);
            }
        }
    }

    private boolean isInConstructor() {
        for (TreePath at = getCurrentPath(); at != null; at = at.getParentPath()) {
            if (at.getLeaf() instanceof MethodTree method) {
                return method.getReturnType() == null;
            }
        }
        return true;
    }

    @Override
    public Void visitNewArray(NewArrayTree tree, Void none) {
        for (ExpressionTree length : tree.getDimensions()) {
            if (!isConstant(length)) {
                fault(7, "a length that is not a number", tree);
            }
        }
        if (!isInConstructor()) {
            fault(12, "an array that a call makes", tree);
        }
        return super.visitNewArray(tree, none);
    }

    @Override
    public Void visitNewClass(NewClassTree tree, Void none) {
        if (!isInConstructor()) {
            fault(12, "an object that a call makes", tree);
        }
        for (ExpressionTree argument : tree.getArguments()) {
            if (!isConstant(argument)) {
                fault(12, "a constructor that hands something out", tree);
            }
        }
        if (tree.getClassBody() != null) {
            fault(2, "a class without a name", tree);
        }
        noteCall(here());
        return super.visitNewClass(tree, none);
    }

    // ---- calls

    @Override
    public Void visitMethodInvocation(MethodInvocationTree tree, Void none) {
        Element element = here();
        if (element instanceof ExecutableElement called) {
            checkCall(tree, called);
            noteCall(called);
        }
        return super.visitMethodInvocation(tree, none);
    }

    private void checkCall(MethodInvocationTree tree, ExecutableElement called) {
        TypeElement owner = (TypeElement) called.getEnclosingElement();
        String name = called.getSimpleName().toString();
        if (name.equals("<init>")) {
            return;
        }
        if (isOwn(called)) {
            Set<Modifier> flags = called.getModifiers();
            boolean fixed = flags.contains(Modifier.PRIVATE) || flags.contains(Modifier.STATIC) || owner.getModifiers().contains(Modifier.FINAL);
            if (isInConstructor() && !fixed) {
                fault(12, "a constructor calls what could be overridden: " + name, tree);
            }
            return;
        }
        String whole = owner.getQualifiedName() + "." + name;
        boolean ofNumbers = NUMBERS.contains(owner.getQualifiedName().toString()) && !name.endsWith("Exact")
                && called.getModifiers().contains(Modifier.STATIC) && called.getReturnType().getKind().isPrimitive();
        if (!LIBRARY.contains(whole) && !ofNumbers) {
            fault(4, "a call that is not listed: " + whole, tree);
        }
        boolean ofFlags = called.getParameters().stream().anyMatch(p -> p.asType().toString().startsWith("boolean"));
        if (owner.getQualifiedName().contentEquals("java.util.Arrays") && ofFlags) {
            fault(4, "Arrays over what are no numbers", tree);
        }
    }

    private void noteCall(Element called) {
        for (TreePath at = getCurrentPath(); at != null && called != null; at = at.getParentPath()) {
            if (at.getLeaf() instanceof MethodTree) {
                calls.computeIfAbsent(trees.getElement(at), k -> new LinkedHashSet<>()).add(called);
                return;
            }
        }
    }

    private void depths() {
        Map<Element, Integer> depth = new HashMap<>();
        for (Element method : calls.keySet()) {
            int found = depthOf(method, depth, new HashSet<>());
            if (found > MOST_DEPTH) {
                faults.add("11 calls go " + found + " deep from " + method);
            }
        }
    }

    private int depthOf(Element method, Map<Element, Integer> known, Set<Element> open) {
        if (known.containsKey(method)) {
            return known.get(method);
        }
        if (!open.add(method)) {
            faults.add("8 recursion in " + method);
            return 0;
        }
        int most = 0;
        for (Element called : calls.getOrDefault(method, Set.of())) {
            // What the library calls in turn is not the file's.
            most = Math.max(most, calls.containsKey(called) ? depthOf(called, known, open) : 0);
        }
        open.remove(method);
        known.put(method, most + 1);
        return most + 1;
    }

    // ---- loops

    @Override
    public Void visitForLoop(ForLoopTree tree, Void none) {
        loop(tree, tree.getCondition());
        return super.visitForLoop(tree, none);
    }

    @Override
    public Void visitWhileLoop(WhileLoopTree tree, Void none) {
        loop(tree, tree.getCondition());
        return super.visitWhileLoop(tree, none);
    }

    @Override
    public Void visitDoWhileLoop(DoWhileLoopTree tree, Void none) {
        loop(tree, tree.getCondition());
        return super.visitDoWhileLoop(tree, none);
    }

    private void loop(Tree tree, ExpressionTree condition) {
        Set<Element> counted = new HashSet<>();
        new TreeScanner<Void, Void>() {
            @Override
            public Void scan(Tree at, Void none) {
                if (at != null && COUNTING.contains(at.getKind())) {
                    counted.add(elementOf(at instanceof UnaryTree unary ? unary.getExpression() : ((CompoundAssignmentTree) at).getVariable()));
                }
                return super.scan(at, none);
            }
        }.scan(tree, null);
        counted.remove(null);
        if (!hasBound(condition, counted)) {
            fault(9, "a loop whose end its lines do not show", tree);
        }
    }

    /** A comparison that must hold for the loop to go on, with a number that the loop counts. */
    private boolean hasBound(Tree condition, Set<Element> counted) {
        if (condition instanceof ParenthesizedTree inner) {
            return hasBound(inner.getExpression(), counted);
        }
        if (!(condition instanceof BinaryTree binary)) {
            return false;
        }
        if (binary.getKind() == Tree.Kind.CONDITIONAL_AND) {
            return hasBound(binary.getLeftOperand(), counted) || hasBound(binary.getRightOperand(), counted);
        }
        return COMPARISONS.contains(binary.getKind()) && (names(binary.getLeftOperand(), counted) || names(binary.getRightOperand(), counted));
    }

    private boolean names(Tree side, Set<Element> counted) {
        if (side instanceof BinaryTree sum) {
            return names(sum.getLeftOperand(), counted) || names(sum.getRightOperand(), counted);
        }
        Element element = elementOf(side);
        return element != null && element.getKind() != ElementKind.METHOD && counted.contains(element);
    }
}

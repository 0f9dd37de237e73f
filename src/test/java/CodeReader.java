import com.sun.source.tree.BinaryTree;
import com.sun.source.tree.ClassTree;
import com.sun.source.tree.CompilationUnitTree;
import com.sun.source.tree.ExpressionTree;
import com.sun.source.tree.ForLoopTree;
import com.sun.source.tree.ImportTree;
import com.sun.source.tree.LineMap;
import com.sun.source.tree.MethodInvocationTree;
import com.sun.source.tree.MethodTree;
import com.sun.source.tree.NewClassTree;
import com.sun.source.tree.Tree;
import com.sun.source.tree.VariableTree;
import com.sun.source.util.JavacTask;
import com.sun.source.util.SourcePositions;
import com.sun.source.util.TreePath;
import com.sun.source.util.TreePathScanner;
import com.sun.source.util.Trees;
import java.io.IOException;
import java.nio.file.Path;
import java.util.HashMap;
import java.util.HashSet;
import java.util.Map;
import java.util.Set;
import java.util.TreeMap;
import java.util.TreeSet;
import javax.lang.model.element.Element;
import javax.lang.model.element.Modifier;
import javax.lang.model.type.ArrayType;
import javax.lang.model.type.DeclaredType;
import javax.lang.model.type.TypeKind;
import javax.lang.model.type.TypeMirror;
import javax.tools.JavaCompiler;
import javax.tools.StandardJavaFileManager;
import javax.tools.ToolProvider;

/** Reads the program's code with the compiler's own eyes, and notes what LANGUAGE.md rules out or counts. */
final class CodeReader extends TreePathScanner<Void, Void> {
    /** What rule 4 leaves of the library, as far as the program may need it. */
    private static final Set<String> LIBRARY = Set.of("System.arraycopy", "Arrays.copyOf", "Arrays.copyOfRange",
        "Arrays.fill", "Math.max", "Math.min", "Math.abs", "Math.floorMod", "Math.floorDiv", "Integer.bitCount",
        "Integer.compare", "Long.compare");
    /** Rule 3 leaves double and float too, which the program has no need of. */
    private static final Set<TypeKind> PRIMITIVES = Set.of(TypeKind.INT, TypeKind.LONG, TypeKind.SHORT,
        TypeKind.BYTE, TypeKind.CHAR, TypeKind.BOOLEAN);
    /** What the program does without. Rule 10 leaves while and do, but the end of a for stands in its head. */
    private static final Map<Tree.Kind, String> RULED_OUT = Map.of(
        Tree.Kind.LAMBDA_EXPRESSION, "rule 2: a lambda",
        Tree.Kind.MEMBER_REFERENCE, "rule 2: a method reference",
        Tree.Kind.THROW, "rule 6: throw",
        Tree.Kind.TRY, "rule 6: try",
        Tree.Kind.SYNCHRONIZED, "rule 6: synchronized",
        Tree.Kind.ASSERT, "rule 6: assert",
        Tree.Kind.WHILE_LOOP, "rule 9: a loop whose end does not stand in its head",
        Tree.Kind.DO_WHILE_LOOP, "rule 9: a loop whose end does not stand in its head");

    /** What was found, as the rule's number and the line. */
    final Set<String> faults = new TreeSet<>();
    /** Each method with the lines from its head to its closing brace. */
    final Map<String, Long> lines = new TreeMap<>();
    private final Map<Element, Set<Element>> calls = new HashMap<>();
    private final Trees trees;
    private final SourcePositions positions;
    private CompilationUnitTree unit;
    private Element method;

    private CodeReader(JavacTask task) {
        trees = Trees.instance(task);
        positions = trees.getSourcePositions();
    }

    static CodeReader of(Path source) throws IOException {
        JavaCompiler compiler = ToolProvider.getSystemJavaCompiler();
        try (StandardJavaFileManager files = compiler.getStandardFileManager(null, null, null)) {
            JavacTask task = (JavacTask) compiler.getTask(null, files, null, null, null, files.getJavaFileObjects(source));
            CodeReader reader = new CodeReader(task);
            Iterable<? extends CompilationUnitTree> units = task.parse();
            task.analyze();
            for (CompilationUnitTree each : units) {
                reader.unit = each;
                reader.scan(each, null);
            }
            return reader;
        }
    }

    /** How many calls stand open at once at most; a method that comes to itself again is a fault. */
    int deepest() {
        int most = 0;
        for (Element each : calls.keySet()) {
            most = Math.max(most, depth(each, new HashSet<>()));
        }
        return most;
    }

    private int depth(Element from, Set<Element> open) {
        if (!open.add(from)) {
            faults.add("rule 8: recursion through " + from);
            return open.size();
        }
        int most = open.size();
        for (Element next : calls.getOrDefault(from, Set.of())) {
            most = Math.max(most, depth(next, open));
        }
        open.remove(from);
        return most;
    }

    private void fault(String what, Tree tree) {
        LineMap map = unit.getLineMap();
        faults.add(what + " in line " + map.getLineNumber(positions.getStartPosition(unit, tree)));
    }

    private boolean isOwn(Element element) {
        for (Element each = element; each != null; each = each.getEnclosingElement()) {
            if (each.getSimpleName().contentEquals("SquareFolds")) {
                return true;
            }
        }
        return false;
    }

    private boolean isAllowed(TypeMirror type) {
        if (type.getKind() == TypeKind.ARRAY) {
            return isAllowed(((ArrayType) type).getComponentType());
        }
        return type.getKind() == TypeKind.VOID || PRIMITIVES.contains(type.getKind())
            || type.getKind() == TypeKind.DECLARED && isOwn(((DeclaredType) type).asElement());
    }

    @Override
    public Void scan(Tree tree, Void none) {
        String ruledOut = tree == null ? null : RULED_OUT.get(tree.getKind());
        if (ruledOut != null) {
            fault(ruledOut, tree);
        }
        return super.scan(tree, none);
    }

    @Override
    public Void visitClass(ClassTree tree, Void none) {
        Tree around = getCurrentPath().getParentPath().getLeaf();
        if (!(around instanceof ClassTree) && !(around instanceof CompilationUnitTree)) {
            fault("rule 2: a local or anonymous class", tree);
        }
        return super.visitClass(tree, none);
    }

    @Override
    public Void visitMethod(MethodTree tree, Void none) {
        method = trees.getElement(getCurrentPath());
        calls.putIfAbsent(method, new HashSet<>());
        LineMap map = unit.getLineMap();
        long first = map.getLineNumber(positions.getStartPosition(unit, tree.getBody()));
        long last = map.getLineNumber(positions.getEndPosition(unit, tree));
        lines.put(method.getEnclosingElement() + "." + method, last - first + 1);
        if (tree.getReturnType() != null && !isAllowed(trees.getTypeMirror(new TreePath(getCurrentPath(), tree.getReturnType())))) {
            fault("rule 3: the type of " + tree.getName(), tree);
        }
        super.visitMethod(tree, none);
        method = null;
        return null;
    }

    @Override
    public Void visitVariable(VariableTree tree, Void none) {
        Element element = trees.getElement(getCurrentPath());
        if (!isAllowed(element.asType())) {
            fault("rule 3: the type of " + tree.getName(), tree);
        }
        if (element.getModifiers().contains(Modifier.STATIC)) {
            boolean isArray = element.asType().getKind() == TypeKind.ARRAY;
            if (!element.getModifiers().contains(Modifier.FINAL) || tree.getInitializer() == null) {
                fault("rule 5: a static field that is not final, " + tree.getName(), tree);
            } else if (isArray && tree.getInitializer().getKind() != Tree.Kind.NEW_ARRAY) {
                fault("rule 5: an array that is not written out, " + tree.getName(), tree);
            }
        }
        return super.visitVariable(tree, none);
    }

    @Override
    public Void visitMethodInvocation(MethodInvocationTree tree, Void none) {
        Element called = trees.getElement(new TreePath(getCurrentPath(), tree.getMethodSelect()));
        String name = called.getEnclosingElement().getSimpleName() + "." + called.getSimpleName();
        if (!isOwn(called)) {
            boolean isSuper = called.getSimpleName().contentEquals("<init>");
            if (!isSuper && !LIBRARY.contains(name)) {
                fault("rule 4: " + name, tree);
            }
        } else if (method != null) {
            calls.get(method).add(called);
        }
        return super.visitMethodInvocation(tree, none);
    }

    @Override
    public Void visitNewClass(NewClassTree tree, Void none) {
        Element made = trees.getElement(getCurrentPath());
        if (!isOwn(made)) {
            fault("rule 4: new " + tree.getIdentifier(), tree);
        }
        return super.visitNewClass(tree, none);
    }

    @Override
    public Void visitForLoop(ForLoopTree tree, Void none) {
        if (tree.getCondition() == null || tree.getUpdate().isEmpty()) {
            fault("rule 9: a loop without a bound or a step", tree);
        }
        return super.visitForLoop(tree, none);
    }

    /** A divisor is a constant, or it is looked at in the same method: in a condition that names it. */
    @Override
    public Void visitBinary(BinaryTree tree, Void none) {
        boolean divides = tree.getKind() == Tree.Kind.DIVIDE || tree.getKind() == Tree.Kind.REMAINDER;
        if (divides && !isConstant(tree.getRightOperand()) && !isLookedAt(tree.getRightOperand().toString())) {
            fault("rule 7: a divisor that is not looked at, " + tree.getRightOperand(), tree);
        }
        return super.visitBinary(tree, none);
    }

    private boolean isConstant(ExpressionTree tree) {
        Element element = trees.getElement(new TreePath(getCurrentPath(), tree));
        boolean named = element != null && element.getModifiers().containsAll(Set.of(Modifier.STATIC, Modifier.FINAL));
        return named || tree.toString().matches("[1-9][0-9]*");
    }

    private boolean isLookedAt(String divisor) {
        TreePath path = getCurrentPath();
        while (path != null && !(path.getLeaf() instanceof MethodTree)) {
            path = path.getParentPath();
        }
        return path != null && path.getLeaf().toString().matches("(?s).*\\b" + divisor + " (!=|>) [0-9].*");
    }

    @Override
    public Void visitImport(ImportTree tree, Void none) {
        if (!tree.getQualifiedIdentifier().toString().startsWith("java.util.")) {
            fault("rule 4: an import", tree);
        }
        return null;
    }
}

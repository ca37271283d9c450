import com.sun.source.tree.AssertTree;
import com.sun.source.tree.BinaryTree;
import com.sun.source.tree.CatchTree;
import com.sun.source.tree.ClassTree;
import com.sun.source.tree.CompilationUnitTree;
import com.sun.source.tree.DoWhileLoopTree;
import com.sun.source.tree.EnhancedForLoopTree;
import com.sun.source.tree.ExpressionTree;
import com.sun.source.tree.ForLoopTree;
import com.sun.source.tree.LambdaExpressionTree;
import com.sun.source.tree.MemberReferenceTree;
import com.sun.source.tree.MethodInvocationTree;
import com.sun.source.tree.MethodTree;
import com.sun.source.tree.NewArrayTree;
import com.sun.source.tree.NewClassTree;
import com.sun.source.tree.SynchronizedTree;
import com.sun.source.tree.ThrowTree;
import com.sun.source.tree.Tree;
import com.sun.source.tree.TryTree;
import com.sun.source.tree.TypeCastTree;
import com.sun.source.tree.VariableTree;
import com.sun.source.tree.WhileLoopTree;
import com.sun.source.util.JavacTask;
import com.sun.source.util.TreePath;
import com.sun.source.util.TreePathScanner;
import com.sun.source.util.Trees;
import java.io.IOException;
import java.nio.file.Path;
import java.util.HashMap;
import java.util.List;
import java.util.Map;
import java.util.Set;
import java.util.TreeMap;
import java.util.TreeSet;
import javax.lang.model.element.Element;
import javax.lang.model.element.ElementKind;
import javax.lang.model.element.Modifier;
import javax.lang.model.element.TypeElement;
import javax.lang.model.element.VariableElement;
import javax.lang.model.type.ArrayType;
import javax.lang.model.type.TypeKind;
import javax.lang.model.type.TypeMirror;
import javax.tools.JavaCompiler;
import javax.tools.StandardJavaFileManager;
import javax.tools.ToolProvider;

/** Rules of ../shared/LANGUAGE.md, by their numbers, asked of the tree that the compiler makes of the class; run at the project's root. */
final class TreeRulesTest extends TreePathScanner<Void, Void> {
    private static final Path SOURCE = Path.of("src/main/java/WeatherHotel.java");

    // Of what rule 4 lists, what the class uses; more may be added from there.
    private static final Set<String> LIBRARY = Set.of("java.lang.String.indexOf", "java.lang.Integer.bitCount", "java.lang.Math.min",
            "java.lang.Math.max", "java.lang.Math.abs", "java.lang.Math.floorMod", "java.lang.System.arraycopy", "java.util.Arrays.fill",
            "java.lang.Object.<init>");

    // Groups of methods that call one another, each with a guard: open counts to six, place to three, b to ten.
    private static final Set<String> RECURSIVE = Set.of("LawReader.readCondition LawReader.readPiece LawReader.readPieces",
            "LawReader.readFactor LawReader.readSum LawReader.readTerm", "Days.fillRow", "Mover.findRoomsFrom", "Mover.findShiftsFrom");

    // Where a divisor that is no constant is tested ahead of it.
    private static final Set<String> TESTED_DIVISORS = Set.of("Law.join", "Chooser.reduce");

    private final Trees trees;
    private final CompilationUnitTree unit;
    private final Set<String> faceNames = new TreeSet<>();
    private final Map<String, Set<String>> calls = new TreeMap<>();
    private int classes = 0;

    private TreeRulesTest(Trees trees, CompilationUnitTree unit) {
        this.trees = trees;
        this.unit = unit;
    }

    public static void main(String[] args) throws IOException {
        JavaCompiler compiler = ToolProvider.getSystemJavaCompiler();
        try (StandardJavaFileManager files = compiler.getStandardFileManager(null, null, null)) {
            JavacTask task = (JavacTask) compiler.getTask(null, files, null, List.of("-proc:none"), null, files.getJavaFileObjects(SOURCE));
            CompilationUnitTree unit = task.parse().iterator().next();
            task.analyze();
            TreeRulesTest test = new TreeRulesTest(Trees.instance(task), unit);
            test.scan(unit, null);
            test.callGraph();
            due("11: classes were found", test.classes > 1 && test.classes <= 12);
        }
        Ask.end();
    }

    private static void due(String what, boolean holds) {
        Ask.due(what, holds, true);
    }

    private String here() {
        long at = trees.getSourcePositions().getStartPosition(unit, getCurrentPath().getLeaf());
        return "line " + unit.getLineMap().getLineNumber(at) + ": ";
    }

    private long linesOf(Tree tree) {
        long start = trees.getSourcePositions().getStartPosition(unit, tree);
        long end = trees.getSourcePositions().getEndPosition(unit, tree);
        return unit.getLineMap().getLineNumber(end) - unit.getLineMap().getLineNumber(start) + 1;
    }

    /** The method around the current place, null in a field's initialiser. */
    private MethodTree method() {
        for (TreePath path = getCurrentPath(); path != null; path = path.getParentPath()) {
            if (path.getLeaf() instanceof MethodTree method) {
                return method;
            }
        }
        return null;
    }

    private static boolean isOwn(Element element) {
        Element at = element;
        while (at != null && at.getEnclosingElement() != null && at.getEnclosingElement().getKind() != ElementKind.PACKAGE) {
            at = at.getEnclosingElement();
        }
        return at != null && at.getSimpleName().contentEquals("WeatherHotel");
    }

    private static String nameOf(Element method) {
        return method.getEnclosingElement().getSimpleName() + "." + method.getSimpleName();
    }

    private String nameOfMethodHere() {
        TreePath path = getCurrentPath();
        while (path != null && !(path.getLeaf() instanceof MethodTree)) {
            path = path.getParentPath();
        }
        return path == null ? "" : nameOf(trees.getElement(path));
    }

    // ---- rules 1, 2 and 11: classes and methods

    @Override
    public Void visitClass(ClassTree tree, Void unused) {
        classes++;
        Element element = trees.getElement(getCurrentPath());
        boolean isFace = element.getEnclosingElement().getKind() == ElementKind.PACKAGE;
        due(here() + "2: no local or anonymous class", isFace || element.getEnclosingElement().getKind() == ElementKind.CLASS);
        due(here() + "2: static", isFace || element.getModifiers().contains(Modifier.STATIC));
        int fields = 0;
        for (Element member : element.getEnclosedElements()) {
            fields += member.getKind() == ElementKind.FIELD && !member.getModifiers().contains(Modifier.STATIC) ? 1 : 0;
            if (isFace && member.getKind() == ElementKind.METHOD && member.getModifiers().contains(Modifier.PUBLIC)) {
                faceNames.add(member.getSimpleName().toString());
            }
        }
        due(here() + "11: fields", fields <= 20);
        for (Tree member : tree.getMembers()) {
            due(here() + "5: no initialiser block", member.getKind() != Tree.Kind.BLOCK);
        }
        return super.visitClass(tree, unused);
    }

    @Override
    public Void visitMethod(MethodTree tree, Void unused) {
        Element element = trees.getElement(getCurrentPath());
        boolean isOpen = element.getModifiers().contains(Modifier.PUBLIC);
        due(here() + "1: no other method bears a public name", isOpen || !faceNames.contains(tree.getName().toString()));
        due(here() + "11: parameters", tree.getParameters().size() <= 7);
        due(here() + "11: lines", linesOf(tree) <= 60);
        due(here() + "6: throws nothing", tree.getThrows().isEmpty());
        calls.putIfAbsent(nameOf(element), new TreeSet<>());
        if (tree.getReturnType() != null) {
            typeIsFine(trees.getTypeMirror(new TreePath(getCurrentPath(), tree.getReturnType())));
        }
        return super.visitMethod(tree, unused);
    }

    // ---- rules 3 and 5: types and fields

    private void typeIsFine(TypeMirror type) {
        TypeMirror inner = type;
        int dimensions = 0;
        while (inner instanceof ArrayType array) {
            inner = array.getComponentType();
            dimensions++;
        }
        boolean isPlain = inner.getKind().isPrimitive() || inner.getKind() == TypeKind.VOID;
        boolean isText = inner.toString().equals("java.lang.String") && dimensions == 0;
        boolean isOwnClass = inner.toString().startsWith("WeatherHotel") && dimensions <= 1;
        due(here() + "3: type " + type, isPlain && dimensions <= 2 || isText || isOwnClass);
        due(here() + "3: no doubles", inner.getKind() != TypeKind.DOUBLE && inner.getKind() != TypeKind.FLOAT);
    }

    @Override
    public Void visitVariable(VariableTree tree, Void unused) {
        Element element = trees.getElement(getCurrentPath());
        typeIsFine(element.asType());
        if (element.getModifiers().contains(Modifier.STATIC)) {
            due(here() + "5: final", element.getModifiers().contains(Modifier.FINAL));
            due(here() + "5: a constant", ((VariableElement) element).getConstantValue() != null);
        }
        return super.visitVariable(tree, unused);
    }

    // ---- rules 4, 6, 10 and 12: what is called, made and joined

    @Override
    public Void visitMethodInvocation(MethodInvocationTree tree, Void unused) {
        Element called = trees.getElement(getCurrentPath());
        if (isOwn(called)) {
            calls.computeIfAbsent(nameOfMethodHere(), name -> new TreeSet<>()).add(nameOf(called));
        } else {
            String name = ((TypeElement) called.getEnclosingElement()).getQualifiedName() + "." + called.getSimpleName();
            due(here() + "4: " + name, LIBRARY.contains(name));
            boolean isOfChar = !name.endsWith("indexOf") || typeOf(tree.getArguments().get(0)).getKind() == TypeKind.CHAR;
            due(here() + "4: indexOf of a char", isOfChar);
        }
        return super.visitMethodInvocation(tree, unused);
    }

    private TypeMirror typeOf(Tree tree) {
        return trees.getTypeMirror(new TreePath(getCurrentPath(), tree));
    }

    private boolean isInConstructor() {
        MethodTree method = method();
        return method == null || method.getName().contentEquals("<init>");
    }

    @Override
    public Void visitNewClass(NewClassTree tree, Void unused) {
        due(here() + "2: no body", tree.getClassBody() == null);
        due(here() + "3: an own class", isOwn(trees.getElement(getCurrentPath())));
        due(here() + "12: made with the hotel", isInConstructor());
        return super.visitNewClass(tree, unused);
    }

    @Override
    public Void visitNewArray(NewArrayTree tree, Void unused) {
        due(here() + "12: made with the hotel", isInConstructor());
        for (ExpressionTree length : tree.getDimensions()) {
            due(here() + "7: a length above 0", isConstantAboveZero(length));
        }
        return super.visitNewArray(tree, unused);
    }

    @Override
    public Void visitTypeCast(TypeCastTree tree, Void unused) {
        due(here() + "6: a cast of a number", typeOf(tree.getType()).getKind().isPrimitive());
        return super.visitTypeCast(tree, unused);
    }

    private boolean isConstantAboveZero(ExpressionTree tree) {
        if (tree.getKind() == Tree.Kind.INT_LITERAL) {
            return Integer.parseInt(tree.toString()) > 0;
        }
        if (tree instanceof BinaryTree both) {
            boolean isProduct = both.getKind() == Tree.Kind.MULTIPLY;
            return isProduct && isConstantAboveZero(both.getLeftOperand()) && isConstantAboveZero(both.getRightOperand());
        }
        Element element = trees.getElement(new TreePath(getCurrentPath(), tree));
        return element instanceof VariableElement variable && variable.getConstantValue() instanceof Integer value && value > 0;
    }

    @Override
    public Void visitBinary(BinaryTree tree, Void unused) {
        boolean isText = typeOf(tree.getLeftOperand()).toString().equals("java.lang.String")
                || typeOf(tree.getRightOperand()).toString().equals("java.lang.String");
        due(here() + "6, 10: texts are neither joined nor compared so", !isText);
        if (tree.getKind() == Tree.Kind.DIVIDE || tree.getKind() == Tree.Kind.REMAINDER) {
            due(here() + "7: a divisor is looked at", isConstantAboveZero(tree.getRightOperand())
                    || TESTED_DIVISORS.contains(nameOfMethodHere()));
        }
        return super.visitBinary(tree, unused);
    }

    // ---- rules 2 and 6: what is not there at all

    private Void none(String what) {
        due(here() + what, false);
        return null;
    }

    @Override
    public Void visitLambdaExpression(LambdaExpressionTree tree, Void unused) {
        return none("2: a lambda");
    }

    @Override
    public Void visitMemberReference(MemberReferenceTree tree, Void unused) {
        return none("2: a method reference");
    }

    @Override
    public Void visitTry(TryTree tree, Void unused) {
        return none("6: try");
    }

    @Override
    public Void visitCatch(CatchTree tree, Void unused) {
        return none("6: catch");
    }

    @Override
    public Void visitThrow(ThrowTree tree, Void unused) {
        return none("6: throw");
    }

    @Override
    public Void visitSynchronized(SynchronizedTree tree, Void unused) {
        return none("6: synchronized");
    }

    @Override
    public Void visitAssert(AssertTree tree, Void unused) {
        return none("6: assert");
    }

    // ---- rule 9: loops

    private void conditionIsFine(ExpressionTree condition) {
        due(here() + "9: a loop with an end", condition != null && condition.toString().matches("(?s).*(<|>|!=).*"));
    }

    @Override
    public Void visitForLoop(ForLoopTree tree, Void unused) {
        conditionIsFine(tree.getCondition());
        due(here() + "9: a counter", tree.getInitializer().size() == 1 && tree.getUpdate().size() == 1);
        return super.visitForLoop(tree, unused);
    }

    @Override
    public Void visitWhileLoop(WhileLoopTree tree, Void unused) {
        conditionIsFine(tree.getCondition());
        return super.visitWhileLoop(tree, unused);
    }

    @Override
    public Void visitDoWhileLoop(DoWhileLoopTree tree, Void unused) {
        conditionIsFine(tree.getCondition());
        return super.visitDoWhileLoop(tree, unused);
    }

    @Override
    public Void visitEnhancedForLoop(EnhancedForLoopTree tree, Void unused) {
        due(here() + "12: no iterator", typeOf(tree.getExpression()).getKind() == TypeKind.ARRAY);
        return super.visitEnhancedForLoop(tree, unused);
    }

    // ---- rules 8 and 11: which methods call one another, and how deep calls go

    private Set<String> reachedFrom(String method) {
        Set<String> reached = new TreeSet<>();
        reach(method, reached);
        return reached;
    }

    private void reach(String method, Set<String> reached) {
        for (String called : calls.getOrDefault(method, Set.of())) {
            if (reached.add(called)) {
                reach(called, reached);
            }
        }
    }

    private void callGraph() {
        Map<String, String> groups = new HashMap<>();
        Set<String> recursive = new TreeSet<>();
        for (String method : calls.keySet()) {
            Set<String> group = new TreeSet<>();
            for (String other : reachedFrom(method)) {
                if (reachedFrom(other).contains(method)) {
                    group.add(other);
                }
            }
            groups.put(method, group.isEmpty() ? method : String.join(" ", group));
            if (!group.isEmpty()) {
                recursive.add(String.join(" ", group));
            }
        }
        due("8: what calls itself is " + recursive, recursive.equals(new TreeSet<>(RECURSIVE)));
        Map<String, Integer> depths = new HashMap<>();
        for (String method : calls.keySet()) {
            int depth = depthOf(groups.get(method), groups, depths);
            due("11: " + method + " goes " + depth + " deep", depth <= 8);
        }
    }

    /** A group of methods that call one another counts as one. */
    private int depthOf(String group, Map<String, String> groups, Map<String, Integer> depths) {
        if (!depths.containsKey(group)) {
            int deepest = 0;
            for (String method : group.split(" ")) {
                for (String called : calls.getOrDefault(method, Set.of())) {
                    String other = groups.getOrDefault(called, called);
                    if (!other.equals(group)) {
                        deepest = Math.max(deepest, depthOf(other, groups, depths));
                    }
                }
            }
            depths.put(group, deepest + 1);
        }
        return depths.get(group);
    }
}

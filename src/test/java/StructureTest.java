import com.sun.source.tree.ArrayTypeTree;
import com.sun.source.tree.BinaryTree;
import com.sun.source.tree.ClassTree;
import com.sun.source.tree.CompilationUnitTree;
import com.sun.source.tree.DoWhileLoopTree;
import com.sun.source.tree.EnhancedForLoopTree;
import com.sun.source.tree.ForLoopTree;
import com.sun.source.tree.LineMap;
import com.sun.source.tree.MethodInvocationTree;
import com.sun.source.tree.MethodTree;
import com.sun.source.tree.NewArrayTree;
import com.sun.source.tree.NewClassTree;
import com.sun.source.tree.Tree;
import com.sun.source.tree.TypeCastTree;
import com.sun.source.tree.VariableTree;
import com.sun.source.tree.WhileLoopTree;
import com.sun.source.util.JavacTask;
import com.sun.source.util.SourcePositions;
import com.sun.source.util.TreePath;
import com.sun.source.util.TreePathScanner;
import com.sun.source.util.Trees;
import java.io.IOException;
import java.nio.file.Path;
import java.util.EnumSet;
import java.util.HashMap;
import java.util.LinkedHashMap;
import java.util.LinkedHashSet;
import java.util.List;
import java.util.Map;
import java.util.Set;
import javax.lang.model.element.Element;
import javax.lang.model.element.ElementKind;
import javax.lang.model.element.Modifier;
import javax.lang.model.element.VariableElement;
import javax.lang.model.type.ArrayType;
import javax.lang.model.type.TypeMirror;
import javax.tools.JavaCompiler;
import javax.tools.StandardJavaFileManager;
import javax.tools.ToolProvider;

/**
 * What LANGUAGE.md asks of the source as the compiler sees it: the statements, types and library
 * that are used, the lengths of methods, and the depths of calls.
 */
public final class StructureTest extends TreePathScanner<Void, Void> {
    private static final Path SOURCE = Path.of("src/main/java/SnapshotRings.java");
    private static final int MOST_CLASSES = 12;
    private static final int MOST_FIELDS = 20;
    private static final int MOST_LINES = 60;
    private static final int MOST_PARAMETERS = 7;
    private static final int DEEPEST = 8;
    // What the class uses of the library; LANGUAGE.md allows more, which can be added here.
    private static final Set<String> LIBRARY = Set.of("java.lang.Integer.bitCount(int)", "java.lang.Math.min(int,int)",
        "java.lang.System.arraycopy(java.lang.Object,int,java.lang.Object,int,int)", "java.lang.Object()");
    private static final Set<Tree.Kind> FORBIDDEN = EnumSet.of(Tree.Kind.THROW, Tree.Kind.TRY, Tree.Kind.CATCH,
        Tree.Kind.ASSERT, Tree.Kind.SYNCHRONIZED, Tree.Kind.LAMBDA_EXPRESSION, Tree.Kind.MEMBER_REFERENCE,
        Tree.Kind.SWITCH_EXPRESSION, Tree.Kind.YIELD, Tree.Kind.INSTANCE_OF, Tree.Kind.NULL_LITERAL,
        Tree.Kind.STRING_LITERAL, Tree.Kind.ANNOTATION, Tree.Kind.IMPORT, Tree.Kind.PACKAGE, Tree.Kind.FLOAT_LITERAL,
        Tree.Kind.DOUBLE_LITERAL, Tree.Kind.UNION_TYPE);

    private final Check check = new Check("StructureTest");
    private final Trees trees;
    private final CompilationUnitTree unit;
    private final Map<Element, Set<Element>> calls = new LinkedHashMap<>();
    private final Map<Element, Integer> depths = new HashMap<>();
    private final Set<Element> open = new LinkedHashSet<>();
    private Element method;
    private int classes = 0;

    private StructureTest(Trees trees, CompilationUnitTree unit) {
        this.trees = trees;
        this.unit = unit;
    }

    public static void main(String[] args) throws IOException {
        JavaCompiler compiler = ToolProvider.getSystemJavaCompiler();
        try (StandardJavaFileManager files = compiler.getStandardFileManager(null, null, null)) {
            JavacTask task = (JavacTask) compiler.getTask(null, files, null, List.of("-proc:none"), null,
                files.getJavaFileObjects(SOURCE));
            CompilationUnitTree unit = task.parse().iterator().next();
            task.analyze();
            StructureTest test = new StructureTest(Trees.instance(task), unit);
            test.scan(unit, null);
            test.checkWhole();
            test.check.end();
        }
    }

    private void checkWhole() {
        check.part("the whole file");
        check.due("top level classes", unit.getTypeDecls().size(), 1);
        atMost("classes", classes, MOST_CLASSES);
        for (Element caller : calls.keySet()) {
            atMost("calls that stand open in " + caller, depth(caller), DEEPEST);
        }
    }

    private void atMost(String what, int got, int bound) {
        check.due(what + " (" + got + ") are at most " + bound, got <= bound ? 1 : 0, 1);
    }

    private int depth(Element caller) {
        if (depths.containsKey(caller)) {
            return depths.get(caller);
        }
        if (!open.add(caller)) {
            check.fail(caller + " calls itself through " + open);
            return 0;
        }
        int deepest = 0;
        for (Element called : calls.getOrDefault(caller, Set.of())) {
            deepest = Math.max(deepest, depth(called));
        }
        open.remove(caller);
        depths.put(caller, deepest + 1);
        return deepest + 1;
    }

    @Override
    public Void scan(Tree tree, Void none) {
        if (tree != null) {
            check.due(tree.getKind() + " is used", FORBIDDEN.contains(tree.getKind()) ? 1 : 0, 0);
        }
        return super.scan(tree, none);
    }

    @Override
    public Void visitClass(ClassTree tree, Void none) {
        classes++;
        check.part("class " + tree.getSimpleName());
        check.due("a plain class", tree.getKind() == Tree.Kind.CLASS ? 1 : 0, 1);
        check.due("inside the file or the one public class", getCurrentPath().getParentPath().getLeaf() == unit
            || getCurrentPath().getParentPath().getParentPath().getLeaf() == unit ? 1 : 0, 1);
        check.due("with a parent", tree.getExtendsClause() != null || !tree.getImplementsClause().isEmpty() ? 1 : 0, 0);
        int fields = 0;
        for (Tree member : tree.getMembers()) {
            check.due("with an initialiser", member.getKind() == Tree.Kind.BLOCK ? 1 : 0, 0);
            if (member instanceof VariableTree field) {
                boolean constant = field.getModifiers().getFlags().contains(Modifier.STATIC);
                fields += constant ? 0 : 1;
            }
        }
        atMost("fields", fields, MOST_FIELDS);
        return super.visitClass(tree, none);
    }

    @Override
    public Void visitMethod(MethodTree tree, Void none) {
        check.part("method " + tree.getName());
        method = element();
        calls.put(method, new LinkedHashSet<>());
        atMost("parameters", tree.getParameters().size(), MOST_PARAMETERS);
        if (!isMadeByCompiler(tree)) {
            atMost("lines", lines(tree), MOST_LINES);
        }
        super.visitMethod(tree, none);
        method = null;
        return null;
    }

    private boolean isMadeByCompiler(Tree tree) {
        return trees.getSourcePositions().getEndPosition(unit, tree) < 0;
    }

    private int lines(Tree tree) {
        SourcePositions places = trees.getSourcePositions();
        LineMap map = unit.getLineMap();
        return (int) (map.getLineNumber(places.getEndPosition(unit, tree))
            - map.getLineNumber(places.getStartPosition(unit, tree))) + 1;
    }

    private Element element() {
        return trees.getElement(getCurrentPath());
    }

    private boolean isOwn(Element element) {
        Element outer = element;
        while (outer.getEnclosingElement() != null && outer.getEnclosingElement().getKind() != ElementKind.PACKAGE) {
            outer = outer.getEnclosingElement();
        }
        return outer.toString().equals("SnapshotRings");
    }

    @Override
    public Void visitVariable(VariableTree tree, Void none) {
        Element variable = element();
        checkType(tree.getName().toString(), variable.asType());
        if (variable.getModifiers().contains(Modifier.STATIC)) {
            Object value = ((VariableElement) variable).getConstantValue();
            check.due(tree.getName() + " is a constant", value != null ? 1 : 0, 1);
        }
        return super.visitVariable(tree, none);
    }

    /** Numbers, truth values, own classes, and arrays of one dimension of numbers or own classes. */
    private void checkType(String name, TypeMirror type) {
        TypeMirror inside = type instanceof ArrayType array ? array.getComponentType() : type;
        boolean plain = switch (inside.getKind()) {
            case INT, LONG, CHAR, BOOLEAN -> true;
            case DECLARED -> inside.toString().startsWith("SnapshotRings");
            default -> false;
        };
        check.due(name + " of type " + type + " is allowed", plain ? 1 : 0, 1);
    }

    @Override
    public Void visitArrayType(ArrayTypeTree tree, Void none) {
        check.due("an array of arrays", tree.getType().getKind() == Tree.Kind.ARRAY_TYPE ? 1 : 0, 0);
        return super.visitArrayType(tree, none);
    }

    @Override
    public Void visitMethodInvocation(MethodInvocationTree tree, Void none) {
        Element called = element();
        if (isOwn(called)) {
            calls.get(method).add(called);
        } else {
            String name = called.getKind() == ElementKind.CONSTRUCTOR
                ? "java.lang.Object()" : called.getEnclosingElement() + "." + called;
            check.due(name + " of the library", LIBRARY.contains(name) ? 1 : 0, 1);
        }
        return super.visitMethodInvocation(tree, none);
    }

    /** No call makes anything; what there is, is made in constructors and initialisers of fields. */
    private void checkMade(Tree tree) {
        boolean inMethod = method != null && method.getKind() != ElementKind.CONSTRUCTOR;
        check.due(tree + " is made by a method", inMethod ? 1 : 0, 0);
    }

    @Override
    public Void visitNewClass(NewClassTree tree, Void none) {
        checkMade(tree);
        Element constructor = element();
        check.due(tree + " is of an own class", isOwn(constructor) ? 1 : 0, 1);
        check.due(tree + " has a body", tree.getClassBody() != null ? 1 : 0, 0);
        if (method != null) {
            calls.get(method).add(constructor);
        }
        return super.visitNewClass(tree, none);
    }

    @Override
    public Void visitNewArray(NewArrayTree tree, Void none) {
        checkMade(tree);
        check.due(tree + " has one dimension", tree.getDimensions().size(), 1);
        return super.visitNewArray(tree, none);
    }

    @Override
    public Void visitTypeCast(TypeCastTree tree, Void none) {
        check.due("cast " + tree + " to a number", tree.getType().getKind() == Tree.Kind.PRIMITIVE_TYPE ? 1 : 0, 1);
        return super.visitTypeCast(tree, none);
    }

    @Override
    public Void visitBinary(BinaryTree tree, Void none) {
        Tree.Kind kind = tree.getKind();
        if (kind == Tree.Kind.DIVIDE || kind == Tree.Kind.REMAINDER) {
            TreePath divisor = new TreePath(getCurrentPath(), tree.getRightOperand());
            boolean constant = trees.getElement(divisor) instanceof VariableElement variable
                && variable.getConstantValue() instanceof Integer number && number > 0;
            check.due(tree + " divides by a constant", constant ? 1 : 0, 1);
        }
        return super.visitBinary(tree, none);
    }

    @Override
    public Void visitForLoop(ForLoopTree tree, Void none) {
        boolean counts = tree.getInitializer().size() == 1 && tree.getCondition() != null
            && tree.getUpdate().size() == 1;
        check.due(tree.getCondition() + " with a counter and one step", counts ? 1 : 0, 1);
        return super.visitForLoop(tree, none);
    }

    @Override
    public Void visitWhileLoop(WhileLoopTree tree, Void none) {
        // The one loop of this kind counts the steps of a schedule.
        boolean known = tree.getCondition().toString().contains("steps < LONGEST_TEXT");
        check.due(tree.getCondition() + " has a bound", known ? 1 : 0, 1);
        return super.visitWhileLoop(tree, none);
    }

    @Override
    public Void visitDoWhileLoop(DoWhileLoopTree tree, Void none) {
        check.fail("a loop that is not known here");
        return super.visitDoWhileLoop(tree, none);
    }

    @Override
    public Void visitEnhancedForLoop(EnhancedForLoopTree tree, Void none) {
        check.fail("a loop that is not known here");
        return super.visitEnhancedForLoop(tree, none);
    }
}

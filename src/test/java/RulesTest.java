import com.sun.source.tree.BinaryTree;
import com.sun.source.tree.ClassTree;
import com.sun.source.tree.CompilationUnitTree;
import com.sun.source.tree.ExpressionTree;
import com.sun.source.tree.LiteralTree;
import com.sun.source.tree.MethodInvocationTree;
import com.sun.source.tree.MethodTree;
import com.sun.source.tree.NewArrayTree;
import com.sun.source.tree.NewClassTree;
import com.sun.source.tree.Tree;
import com.sun.source.tree.Tree.Kind;
import com.sun.source.tree.TypeCastTree;
import com.sun.source.tree.VariableTree;
import com.sun.source.util.JavacTask;
import com.sun.source.util.TreePathScanner;
import com.sun.source.util.Trees;
import java.io.File;
import java.util.EnumSet;
import java.util.HashSet;
import java.util.List;
import java.util.Map;
import java.util.Set;
import java.util.TreeMap;
import java.util.TreeSet;
import javax.lang.model.element.Element;
import javax.lang.model.element.ElementKind;
import javax.lang.model.element.ExecutableElement;
import javax.lang.model.element.Modifier;
import javax.lang.model.element.TypeElement;
import javax.lang.model.type.ArrayType;
import javax.lang.model.type.TypeKind;
import javax.lang.model.type.TypeMirror;
import javax.tools.JavaCompiler;
import javax.tools.StandardJavaFileManager;
import javax.tools.ToolProvider;

/**
 * Rules of ../shared/LANGUAGE.md as the compiler sees the file: kinds of code (2, 6), types (3), the library (4),
 * static fields (5), divisors (7), no recursion (8), how deep calls go (11), where things are made (12).
 * Run where the project's root is.
 */
public final class RulesTest extends TreePathScanner<Void, Void> {
    private static final String FILE = "src/main/java/BowlState.java";
    private static final int DEEPEST = 8;
    private static final Set<Kind> NEVER = EnumSet.of(Kind.LAMBDA_EXPRESSION, Kind.MEMBER_REFERENCE, Kind.THROW,
        Kind.TRY, Kind.CATCH, Kind.SYNCHRONIZED, Kind.ASSERT, Kind.ANNOTATION, Kind.STRING_LITERAL, Kind.IMPORT,
        Kind.PACKAGE, Kind.INSTANCE_OF, Kind.WHILE_LOOP, Kind.DO_WHILE_LOOP, Kind.YIELD);
    private static final Set<String> LIBRARY = Set.of("java.lang.Integer.bitCount", "java.lang.Math.min",
        "java.lang.Math.abs", "java.lang.Math.floorMod", "java.lang.System.arraycopy");

    private static final Due DUE = new Due();

    private final Trees trees;
    /** Of each method or constructor those that it calls. */
    private final Map<String, Set<String>> calls = new TreeMap<>();

    private RulesTest(Trees trees) {
        this.trees = trees;
    }

    public static void main(String[] args) throws Exception {
        JavaCompiler compiler = ToolProvider.getSystemJavaCompiler();
        try (StandardJavaFileManager files = compiler.getStandardFileManager(null, null, null)) {
            JavacTask task = (JavacTask) compiler.getTask(null, files, null, List.of("--release", "17"), null,
                files.getJavaFileObjects(new File(FILE)));
            RulesTest rules = new RulesTest(Trees.instance(task));
            Iterable<? extends CompilationUnitTree> units = task.parse();
            task.analyze();
            for (CompilationUnitTree unit : units) {
                DUE.is("classes beside the one", unit.getTypeDecls().size() - 1, 0);
                rules.scan(unit, null);
            }
            rules.depths();
        }
        DUE.end();
    }

    @Override
    public Void scan(Tree tree, Void nothing) {
        if (tree != null) {
            DUE.holds("no " + tree.getKind() + ": " + tree, !NEVER.contains(tree.getKind()));
        }
        return super.scan(tree, nothing);
    }

    @Override
    public Void visitClass(ClassTree tree, Void nothing) {
        TypeElement type = (TypeElement) trees.getElement(getCurrentPath());
        boolean inside = type.getEnclosingElement().getKind() == ElementKind.CLASS;
        boolean outermost = type.getEnclosingElement().getKind() == ElementKind.PACKAGE;
        DUE.holds(type + " is no local or anonymous class", inside || outermost);
        DUE.holds(type + " is static", outermost || type.getModifiers().contains(Modifier.STATIC));
        return super.visitClass(tree, nothing);
    }

    @Override
    public Void visitVariable(VariableTree tree, Void nothing) {
        Element element = trees.getElement(getCurrentPath());
        TypeMirror type = element.asType();
        DUE.holds(tree + " is of a type that is left", isLeft(type));
        boolean isField = element.getKind() == ElementKind.FIELD;
        if (isField && element.getModifiers().contains(Modifier.STATIC)) {
            boolean numbers = type.getKind() == TypeKind.ARRAY || type.getKind().isPrimitive();
            DUE.holds(tree + " is a constant", element.getModifiers().contains(Modifier.FINAL) && numbers);
            DUE.holds(tree + " is written out", type.getKind() != TypeKind.ARRAY
                || tree.getInitializer() instanceof NewArrayTree made && made.getInitializers() != null);
        }
        return super.visitVariable(tree, nothing);
    }

    private static boolean isLeft(TypeMirror type) {
        if (type instanceof ArrayType array) {
            return array.getComponentType().getKind() != TypeKind.ARRAY && isLeft(array.getComponentType());
        }
        return type.getKind() == TypeKind.INT || type.getKind() == TypeKind.LONG
            || type.getKind() == TypeKind.BOOLEAN || type.toString().startsWith("BowlState");
    }

    @Override
    public Void visitMethod(MethodTree tree, Void nothing) {
        calls.computeIfAbsent(told(trees.getElement(getCurrentPath())), key -> new TreeSet<>());
        return super.visitMethod(tree, nothing);
    }

    @Override
    public Void visitMethodInvocation(MethodInvocationTree tree, Void nothing) {
        called(trees.getElement(getCurrentPath()));
        return super.visitMethodInvocation(tree, nothing);
    }

    @Override
    public Void visitNewClass(NewClassTree tree, Void nothing) {
        DUE.holds(tree + " is made in a constructor", isInConstructor());
        called(trees.getElement(getCurrentPath()));
        return super.visitNewClass(tree, nothing);
    }

    @Override
    public Void visitNewArray(NewArrayTree tree, Void nothing) {
        DUE.holds(tree + " is made in a constructor", isInConstructor());
        return super.visitNewArray(tree, nothing);
    }

    /** A field's first value belongs to the constructor. */
    private boolean isInConstructor() {
        MethodTree method = enclosingMethod();
        return method == null || method.getName().contentEquals("<init>");
    }

    private MethodTree enclosingMethod() {
        for (Tree tree : getCurrentPath()) {
            if (tree instanceof MethodTree method) {
                return method;
            }
        }
        return null;
    }

    private void called(Element callee) {
        String name = told(callee);
        boolean own = name.startsWith("BowlState");
        boolean above = name.equals("java.lang.Object.<init>");
        DUE.holds(name + " is of the library that is left", own || above || LIBRARY.contains(name));
        calls.computeIfAbsent(caller(), key -> new TreeSet<>()).add(name);
    }

    private String caller() {
        Element type = null;
        for (Tree tree : getCurrentPath()) {
            if (tree instanceof MethodTree || tree instanceof ClassTree) {
                type = trees.getElement(trees.getPath(getCurrentPath().getCompilationUnit(), tree));
                break;
            }
        }
        return type instanceof ExecutableElement ? told(type) : type + ".<init>";
    }

    private static String told(Element method) {
        return method.getEnclosingElement() + "." + method.getSimpleName();
    }

    @Override
    public Void visitBinary(BinaryTree tree, Void nothing) {
        if (tree.getKind() == Kind.DIVIDE || tree.getKind() == Kind.REMAINDER) {
            divides(tree.getRightOperand());
        }
        return super.visitBinary(tree, nothing);
    }

    @Override
    public Void visitCompoundAssignment(com.sun.source.tree.CompoundAssignmentTree tree, Void nothing) {
        if (tree.getKind() == Kind.DIVIDE_ASSIGNMENT || tree.getKind() == Kind.REMAINDER_ASSIGNMENT) {
            divides(tree.getExpression());
        }
        return super.visitCompoundAssignment(tree, nothing);
    }

    /** A divisor is a number that is not 0, or was looked at against 0 in the same method. */
    private void divides(ExpressionTree divisor) {
        boolean number = divisor instanceof LiteralTree literal && !literal.getValue().equals(0);
        String body = String.valueOf(enclosingMethod());
        boolean lookedAt = body.contains(divisor + " != 0") || body.contains(divisor + " == 0");
        DUE.holds("a divisor that is looked at: " + divisor, number || lookedAt);
    }

    @Override
    public Void visitTypeCast(TypeCastTree tree, Void nothing) {
        DUE.holds("only numbers are cast: " + tree, tree.getType().getKind() == Kind.PRIMITIVE_TYPE);
        return super.visitTypeCast(tree, nothing);
    }

    private void depths() {
        DUE.holds("there are calls", calls.size() > 31);
        for (String method : calls.keySet()) {
            int depth = depthOf(method, new HashSet<>());
            DUE.holds(method + " goes " + depth + " deep", depth <= DEEPEST);
        }
    }

    private int depthOf(String method, Set<String> open) {
        DUE.holds("no recursion: " + method, !open.contains(method));
        int deepest = 0;
        if (open.add(method)) {
            for (String callee : calls.getOrDefault(method, Set.of())) {
                deepest = Math.max(deepest, depthOf(callee, open));
            }
            open.remove(method);
        }
        return deepest + 1;
    }
}

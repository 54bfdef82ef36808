import com.sun.source.tree.BlockTree;
import com.sun.source.tree.ClassTree;
import com.sun.source.tree.CompilationUnitTree;
import com.sun.source.tree.MethodInvocationTree;
import com.sun.source.tree.MethodTree;
import com.sun.source.tree.NewArrayTree;
import com.sun.source.tree.NewClassTree;
import com.sun.source.tree.Tree;
import com.sun.source.tree.VariableTree;
import com.sun.source.tree.WhileLoopTree;
import com.sun.source.util.JavacTask;
import com.sun.source.util.TreePath;
import com.sun.source.util.TreePathScanner;
import com.sun.source.util.Trees;
import java.io.IOException;
import java.nio.file.Path;
import java.util.HashMap;
import java.util.LinkedHashSet;
import java.util.Map;
import java.util.Set;
import java.util.TreeMap;
import javax.lang.model.element.Element;
import javax.lang.model.element.Modifier;
import javax.lang.model.type.ArrayType;
import javax.lang.model.type.TypeKind;
import javax.lang.model.type.TypeMirror;
import javax.tools.JavaCompiler;
import javax.tools.StandardJavaFileManager;
import javax.tools.ToolProvider;

/** The rules of LANGUAGE.md that are seen in the source, by the trees that the compiler makes of it. */
public final class SourceTest extends TreePathScanner<Void, Void> {
    private static final Check CHECK = new Check("SourceTest");
    private static final int MOST_LINES = 60;
    private static final int MOST_PARAMETERS = 7;
    private static final int MOST_FIELDS = 20;
    private static final int MOST_CLASSES = 12;
    private static final int MOST_DEPTH = 8;
    /** What the program takes from the library, which is less than it might. */
    private static final Set<String> LIBRARY = Set.of("java.lang.Math.min(int,int)", "java.lang.Math.max(int,int)");

    private static final Set<Tree.Kind> FORBIDDEN = Set.of(Tree.Kind.THROW, Tree.Kind.TRY, Tree.Kind.CATCH,
        Tree.Kind.SYNCHRONIZED, Tree.Kind.ASSERT, Tree.Kind.LAMBDA_EXPRESSION, Tree.Kind.MEMBER_REFERENCE);

    private final Trees trees;
    private final CompilationUnitTree unit;
    private final Map<Element, Set<Element>> calls = new HashMap<>();
    private final Map<String, Integer> fields = new TreeMap<>();
    private final Map<Element, Integer> depths = new HashMap<>();
    private final Set<String> publicNames = new LinkedHashSet<>();
    private Element method;
    private int classes;

    private SourceTest(Trees trees, CompilationUnitTree unit) {
        this.trees = trees;
        this.unit = unit;
    }

    public static void main(String[] args) throws IOException {
        JavaCompiler compiler = ToolProvider.getSystemJavaCompiler();
        try (StandardJavaFileManager files = compiler.getStandardFileManager(null, null, null)) {
            JavacTask task = (JavacTask) compiler.getTask(null, files, null, null, null,
                files.getJavaFileObjects(Path.of("src/main/java/SplitTowers.java")));
            CompilationUnitTree unit = task.parse().iterator().next();
            task.analyze();
            SourceTest test = new SourceTest(Trees.instance(task), unit);
            CHECK.that("no package and no imports", unit.getPackage() == null && unit.getImports().isEmpty());
            CHECK.due("one class in the file", unit.getTypeDecls().size(), 1);
            test.scan(new TreePath(unit), null);
            test.whatWasCounted();
        }
        CHECK.done();
    }

    private void whatWasCounted() {
        CHECK.that("rule 11: " + classes + " classes", classes <= MOST_CLASSES);
        fields.forEach((name, count) -> CHECK.that("rule 11: " + count + " fields of " + name, count <= MOST_FIELDS));
        for (Element each : calls.keySet()) {
            CHECK.that("rule 1: " + each + " has no public one's name", each.getModifiers().contains(Modifier.PUBLIC)
                || !publicNames.contains(each.getSimpleName().toString()));
            CHECK.that("rule 11: " + each + " goes " + depth(each, new LinkedHashSet<>()) + " deep",
                depth(each, new LinkedHashSet<>()) <= MOST_DEPTH);
        }
    }

    /** How many calls stand open at once, this one and those of the library counted. */
    private int depth(Element each, Set<Element> open) {
        if (depths.containsKey(each)) {
            return depths.get(each);
        }
        if (!open.add(each)) {
            CHECK.that("rule 8: " + each + " calls itself", false);
            return 0;
        }
        int deepest = 0;
        for (Element called : calls.getOrDefault(each, Set.of())) {
            deepest = Math.max(deepest, depth(called, open));
        }
        open.remove(each);
        depths.put(each, deepest + 1);
        return deepest + 1;
    }

    private long line(Tree tree) {
        return unit.getLineMap().getLineNumber(trees.getSourcePositions().getStartPosition(unit, tree));
    }

    private long lines(Tree tree) {
        return unit.getLineMap().getLineNumber(trees.getSourcePositions().getEndPosition(unit, tree)) - line(tree) + 1;
    }

    @Override
    public Void scan(Tree tree, Void none) {
        if (tree != null && FORBIDDEN.contains(tree.getKind())) {
            CHECK.that("rules 2 and 6: no " + tree.getKind() + " in line " + line(tree), false);
        }
        return super.scan(tree, none);
    }

    @Override
    public Void visitClass(ClassTree tree, Void none) {
        classes++;
        Element own = trees.getElement(getCurrentPath());
        boolean outer = tree.getSimpleName().contentEquals("SplitTowers");
        Set<Modifier> modifiers = tree.getModifiers().getFlags();
        if (!outer) {
            CHECK.that("rule 2: " + own + " is static", modifiers.contains(Modifier.STATIC));
            CHECK.that("rule 1: " + own + " is private or package-visible",
                !modifiers.contains(Modifier.PUBLIC) && !modifiers.contains(Modifier.PROTECTED));
        }
        for (Tree member : tree.getMembers()) {
            if (member instanceof BlockTree) {
                CHECK.that("rule 5: no initialiser block in line " + line(member), false);
            }
            if (member instanceof VariableTree field) {
                aField(field, own.toString());
            }
        }
        return super.visitClass(tree, none);
    }

    private void aField(VariableTree field, String owner) {
        Set<Modifier> modifiers = field.getModifiers().getFlags();
        if (!modifiers.contains(Modifier.STATIC)) {
            fields.merge(owner, 1, Integer::sum);
            return;
        }
        String type = field.getType().toString();
        CHECK.that("rule 5: " + owner + "." + field.getName() + " is a constant", modifiers.contains(Modifier.FINAL)
            && field.getInitializer() != null && Set.of("int", "long", "boolean", "char", "String").contains(type));
    }

    @Override
    public Void visitMethod(MethodTree tree, Void none) {
        method = trees.getElement(getCurrentPath());
        calls.putIfAbsent(method, new LinkedHashSet<>());
        if (tree.getModifiers().getFlags().contains(Modifier.PUBLIC) && !inConstructor()) {
            publicNames.add(tree.getName().toString());
        }
        CHECK.that("rule 11: the parameters of " + method, tree.getParameters().size() <= MOST_PARAMETERS);
        CHECK.that("rule 11: the lines of " + method, lines(tree) <= MOST_LINES);
        CHECK.that("rule 6: " + method + " throws nothing", tree.getThrows().isEmpty());
        return super.visitMethod(tree, none);
    }

    @Override
    public Void visitMethodInvocation(MethodInvocationTree tree, Void none) {
        Element called = trees.getElement(getCurrentPath());
        if (!called.getSimpleName().contentEquals("<init>")) {
            String owner = called.getEnclosingElement().toString();
            CHECK.that("rule 4: " + owner + "." + called + " in line " + line(tree),
                owner.startsWith("SplitTowers") || LIBRARY.contains(owner + "." + called));
            calls.get(method).add(called);
        }
        return super.visitMethodInvocation(tree, none);
    }

    @Override
    public Void visitNewClass(NewClassTree tree, Void none) {
        CHECK.that("rule 2: no class without a name in line " + line(tree), tree.getClassBody() == null);
        CHECK.that("objects are made by constructors alone: " + line(tree), inConstructor());
        calls.get(method).add(trees.getElement(getCurrentPath()));
        return super.visitNewClass(tree, none);
    }

    @Override
    public Void visitNewArray(NewArrayTree tree, Void none) {
        CHECK.that("arrays are made by constructors alone: " + line(tree), inConstructor());
        return super.visitNewArray(tree, none);
    }

    private boolean inConstructor() {
        return method != null && method.getSimpleName().contentEquals("<init>");
    }

    @Override
    public Void visitVariable(VariableTree tree, Void none) {
        TypeMirror type = trees.getTypeMirror(getCurrentPath());
        CHECK.that("rule 3: the type of " + tree.getName() + " in line " + line(tree), isAllowed(type, 0));
        return super.visitVariable(tree, none);
    }

    private static boolean isAllowed(TypeMirror type, int dimensions) {
        if (type.getKind() == TypeKind.ARRAY) {
            return isAllowed(((ArrayType) type).getComponentType(), dimensions + 1);
        }
        return type.getKind().isPrimitive() ? dimensions <= 2 : dimensions <= 1 && type.toString().startsWith("SplitTowers");
    }

    @Override
    public Void visitWhileLoop(WhileLoopTree tree, Void none) {
        CHECK.that("rule 9: a loop that has an end, in line " + line(tree), !tree.getCondition().toString().equals("(true)"));
        return super.visitWhileLoop(tree, none);
    }
}

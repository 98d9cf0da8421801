import com.sun.source.tree.AssertTree;
import com.sun.source.tree.BlockTree;
import com.sun.source.tree.ClassTree;
import com.sun.source.tree.CompilationUnitTree;
import com.sun.source.tree.DoWhileLoopTree;
import com.sun.source.tree.ForLoopTree;
import com.sun.source.tree.LambdaExpressionTree;
import com.sun.source.tree.LiteralTree;
import com.sun.source.tree.MemberReferenceTree;
import com.sun.source.tree.MethodInvocationTree;
import com.sun.source.tree.MethodTree;
import com.sun.source.tree.NewArrayTree;
import com.sun.source.tree.NewClassTree;
import com.sun.source.tree.SynchronizedTree;
import com.sun.source.tree.ThrowTree;
import com.sun.source.tree.Tree;
import com.sun.source.tree.TryTree;
import com.sun.source.tree.VariableTree;
import com.sun.source.tree.WhileLoopTree;
import com.sun.source.util.JavacTask;
import com.sun.source.util.TreePath;
import com.sun.source.util.TreePathScanner;
import com.sun.source.util.Trees;
import java.lang.reflect.Constructor;
import java.lang.reflect.Field;
import java.lang.reflect.Method;
import java.lang.reflect.Modifier;
import java.nio.file.Path;
import java.util.ArrayList;
import java.util.HashMap;
import java.util.HashSet;
import java.util.List;
import java.util.Map;
import java.util.Set;
import java.util.TreeSet;
import javax.lang.model.element.Element;
import javax.lang.model.element.ElementKind;
import javax.tools.JavaCompiler;
import javax.tools.StandardJavaFileManager;
import javax.tools.ToolProvider;

/** The rules of LANGUAGE.md that can be seen in the source, and the face. Run where the project's README lies. */
public final class RulesTest extends TreePathScanner<Void, Void> {
    private static final String SOURCE = "src/main/java/CellFigures.java";

    private static final Set<String> LIBRARY = Set.of(
        "java.lang.Long.bitCount", "java.lang.Integer.bitCount", "java.lang.Math.max", "java.lang.Math.min",
        "java.lang.Math.abs", "java.lang.System.arraycopy", "java.lang.Object.<init>");

    private static final Set<String> FACE = Set.of(
        "int feed(int, int, int, int, int)", "int figure(int, int)", "boolean put(int, long)", "int take(int)",
        "int told(int, int)", "int cell(int, int, int)", "long number(int, int)", "long turn(int, int)",
        "int alike(int, int, int)", "int change(int, int, int, boolean)", "int list(int, int)",
        "long listed(int, int, int)", "int place(int, int)", "int many(int, int, int, int, int)",
        "long found(int, int, int, int, int, int)", "int crowd(int, int, int, boolean)",
        "int kin(int, int, boolean)", "long kinAt(int, int, boolean, int)", "int way(int, int)",
        "int farthest(int, boolean)", "long drawn(int, int, int)", "int line(int, int)", "int tiles(int, int)",
        "int tilers(int, int)", "int fill(int, int, int, boolean)", "int vector(int, int)",
        "int owner(int, int, int, int)", "long part(int, int)", "int inside(int, int, boolean)",
        "int common(int, int)", "int keep()", "int back()", "int join(int, int, int, int, boolean)",
        "int swap(int, int)", "int share(int, int, int, int)", "int touch(int, int, int)", "int count(int)");

    private final Map<String, Set<String>> calls = new HashMap<>();
    private final List<String> faults = new ArrayList<>();
    private final Trees trees;
    private final CompilationUnitTree unit;
    private int classes;

    private RulesTest(Trees trees, CompilationUnitTree unit) {
        this.trees = trees;
        this.unit = unit;
    }

    public static void main(String[] args) throws Exception {
        JavaCompiler compiler = ToolProvider.getSystemJavaCompiler();
        try (StandardJavaFileManager files = compiler.getStandardFileManager(null, null, null)) {
            JavacTask task = (JavacTask) compiler.getTask(null, files, null, List.of("-proc:none"), null,
                files.getJavaFileObjects(Path.of(SOURCE)));
            CompilationUnitTree unit = task.parse().iterator().next();
            task.analyze();
            RulesTest test = new RulesTest(Trees.instance(task), unit);
            test.scan(new TreePath(unit), null);
            test.checkWhole();
            test.checkFace();
            for (String fault : test.faults) System.out.println(fault);
            System.out.println(test.faults.isEmpty() ? "rules: all are kept" : "rules: some are broken");
            if (!test.faults.isEmpty()) System.exit(1);
        }
    }

    private long lineOf(long position) {
        return unit.getLineMap().getLineNumber(position);
    }

    private void fault(Tree at, String what) {
        faults.add("line " + lineOf(trees.getSourcePositions().getStartPosition(unit, at)) + ": " + what);
    }

    private void checkWhole() {
        if (!unit.getImports().isEmpty()) faults.add("there are imports");
        if (unit.getPackageName() != null) faults.add("there is a package");
        if (classes > 12) faults.add(classes + " classes");
        Set<String> seen = new HashSet<>();
        for (String method : calls.keySet()) {
            int depth = depth(method, seen);
            if (depth > 8) faults.add(method + " goes " + depth + " calls deep");
        }
    }

    /** The calls that stand open at once, library calls too; a ring of calls is told as a fault. */
    private int depth(String method, Set<String> open) {
        if (!open.add(method)) {
            faults.add(method + " calls itself");
            return 0;
        }
        int deepest = 0;
        for (String next : calls.getOrDefault(method, Set.of())) deepest = Math.max(deepest, depth(next, open));
        open.remove(method);
        return deepest + 1;
    }

    private void checkFace() {
        Set<String> face = new TreeSet<>();
        for (Method m : CellFigures.class.getDeclaredMethods()) {
            if (Modifier.isPrivate(m.getModifiers())) continue;
            List<String> types = new ArrayList<>();
            for (Class<?> type : m.getParameterTypes()) types.add(type.getName());
            face.add(m.getReturnType().getName() + " " + m.getName() + "(" + String.join(", ", types) + ")");
            if (m.getModifiers() != Modifier.PUBLIC) faults.add(m + " is not just public");
        }
        for (String due : FACE) if (!face.contains(due)) faults.add("the face lacks " + due);
        for (String there : face) if (!FACE.contains(there)) faults.add("the face has " + there);
        for (Field f : CellFigures.class.getDeclaredFields()) {
            boolean none = f.toString().equals("public static final int CellFigures.NONE");
            if (!Modifier.isPrivate(f.getModifiers()) && !none) faults.add(f + " can be seen");
        }
        Constructor<?>[] constructors = CellFigures.class.getDeclaredConstructors();
        if (constructors.length != 1 || constructors[0].getParameterCount() != 0) faults.add("other constructors");
        if (CellFigures.class.getModifiers() != (Modifier.PUBLIC | Modifier.FINAL)) faults.add("the class is not public and final");
        Set<String> names = new HashSet<>();
        for (String due : FACE) names.add(due.substring(due.indexOf(' ') + 1, due.indexOf('(')));
        for (String method : calls.keySet()) {
            String[] parts = method.split("[.(]");
            if (!parts[0].equals("CellFigures") && names.contains(parts[1])) faults.add(method + " bears a name of the face");
        }
    }

    private static String nameOf(Element method) {
        return method.getEnclosingElement().getSimpleName() + "." + method;
    }

    @Override
    public Void visitClass(ClassTree node, Void none) {
        classes++;
        Element element = trees.getElement(getCurrentPath());
        Set<javax.lang.model.element.Modifier> has = node.getModifiers().getFlags();
        boolean inner = element.getEnclosingElement().getKind() != ElementKind.PACKAGE;
        if (inner && !has.contains(javax.lang.model.element.Modifier.STATIC)) fault(node, "a class inside that is not static");
        int fields = 0;
        for (Tree member : node.getMembers()) {
            if (member instanceof BlockTree) fault(member, "an initialiser block");
            if (member instanceof VariableTree field) {
                boolean fixed = field.getModifiers().getFlags().contains(javax.lang.model.element.Modifier.STATIC);
                if (fixed && !field.getModifiers().getFlags().contains(javax.lang.model.element.Modifier.FINAL)) {
                    fault(member, "a static field that is not final");
                }
                if (!fixed) fields++;
            }
        }
        if (fields > 20) fault(node, fields + " fields");
        return super.visitClass(node, none);
    }

    @Override
    public Void visitMethod(MethodTree node, Void none) {
        Element element = trees.getElement(getCurrentPath());
        calls.computeIfAbsent(nameOf(element), k -> new TreeSet<>());
        long first = lineOf(trees.getSourcePositions().getStartPosition(unit, node));
        long last = lineOf(trees.getSourcePositions().getEndPosition(unit, node));
        if (last - first + 1 > 60) fault(node, node.getName() + " is long");
        if (node.getParameters().size() > 7) fault(node, node.getName() + " takes many");
        return super.visitMethod(node, none);
    }

    private void noteCall(Tree node) {
        Element called = trees.getElement(getCurrentPath());
        String owner = called.getEnclosingElement().toString();
        boolean own = owner.equals("CellFigures") || owner.startsWith("CellFigures.");
        String plain = owner + "." + called.getSimpleName();
        if (!own && !LIBRARY.contains(plain)) fault(node, plain + " is called");
        TreePath path = getCurrentPath();
        while (path != null && !(path.getLeaf() instanceof MethodTree)) path = path.getParentPath();
        // What stands outside all methods is a field's own beginning, which the constructor runs.
        String caller = path == null ? "CellFigures.CellFigures()" : nameOf(trees.getElement(path));
        calls.computeIfAbsent(caller, k -> new TreeSet<>()).add(own ? nameOf(called) : plain);
    }

    @Override
    public Void visitMethodInvocation(MethodInvocationTree node, Void none) {
        noteCall(node);
        return super.visitMethodInvocation(node, none);
    }

    @Override
    public Void visitNewClass(NewClassTree node, Void none) {
        if (node.getClassBody() != null) fault(node, "an anonymous class");
        if (insideMethod()) fault(node, "an object made by a call");
        noteCall(node);
        return super.visitNewClass(node, none);
    }

    @Override
    public Void visitNewArray(NewArrayTree node, Void none) {
        if (insideMethod()) fault(node, "an array made by a call");
        return super.visitNewArray(node, none);
    }

    private boolean insideMethod() {
        for (TreePath path = getCurrentPath(); path != null; path = path.getParentPath()) {
            if (path.getLeaf() instanceof MethodTree) return true;
        }
        return false;
    }

    @Override
    public Void visitForLoop(ForLoopTree node, Void none) {
        if (node.getCondition() == null || node.getUpdate().isEmpty()) fault(node, "a loop without a bound");
        return super.visitForLoop(node, none);
    }

    @Override
    public Void visitWhileLoop(WhileLoopTree node, Void none) {
        fault(node, "a while loop, whose bound can't be seen");
        return super.visitWhileLoop(node, none);
    }

    @Override
    public Void visitDoWhileLoop(DoWhileLoopTree node, Void none) {
        fault(node, "a do loop, whose bound can't be seen");
        return super.visitDoWhileLoop(node, none);
    }

    @Override
    public Void visitLiteral(LiteralTree node, Void none) {
        if (node.getKind() == Tree.Kind.STRING_LITERAL) fault(node, "a text, of which the class has no need");
        return super.visitLiteral(node, none);
    }

    @Override
    public Void visitThrow(ThrowTree node, Void none) {
        fault(node, "throw");
        return super.visitThrow(node, none);
    }

    @Override
    public Void visitTry(TryTree node, Void none) {
        fault(node, "try");
        return super.visitTry(node, none);
    }

    @Override
    public Void visitSynchronized(SynchronizedTree node, Void none) {
        fault(node, "synchronized");
        return super.visitSynchronized(node, none);
    }

    @Override
    public Void visitAssert(AssertTree node, Void none) {
        fault(node, "assert");
        return super.visitAssert(node, none);
    }

    @Override
    public Void visitLambdaExpression(LambdaExpressionTree node, Void none) {
        fault(node, "a lambda");
        return super.visitLambdaExpression(node, none);
    }

    @Override
    public Void visitMemberReference(MemberReferenceTree node, Void none) {
        fault(node, "a method reference");
        return super.visitMemberReference(node, none);
    }
}

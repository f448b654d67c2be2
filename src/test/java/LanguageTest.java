import com.sun.source.tree.AssertTree;
import com.sun.source.tree.BinaryTree;
import com.sun.source.tree.ClassTree;
import com.sun.source.tree.CompilationUnitTree;
import com.sun.source.tree.ExpressionTree;
import com.sun.source.tree.ImportTree;
import com.sun.source.tree.LambdaExpressionTree;
import com.sun.source.tree.LiteralTree;
import com.sun.source.tree.MemberReferenceTree;
import com.sun.source.tree.MethodInvocationTree;
import com.sun.source.tree.MethodTree;
import com.sun.source.tree.NewArrayTree;
import com.sun.source.tree.NewClassTree;
import com.sun.source.tree.SynchronizedTree;
import com.sun.source.tree.ThrowTree;
import com.sun.source.tree.Tree;
import com.sun.source.tree.TryTree;
import com.sun.source.tree.VariableTree;
import com.sun.source.util.JavacTask;
import com.sun.source.util.SourcePositions;
import com.sun.source.util.TreePath;
import com.sun.source.util.TreePathScanner;
import com.sun.source.util.Trees;
import java.nio.file.Files;
import java.nio.file.Path;
import java.util.ArrayList;
import java.util.HashSet;
import java.util.LinkedHashMap;
import java.util.List;
import java.util.Map;
import java.util.Set;
import java.util.TreeSet;
import javax.lang.model.element.Element;
import javax.lang.model.element.ElementKind;
import javax.lang.model.element.Modifier;
import javax.lang.model.element.TypeElement;
import javax.lang.model.type.TypeMirror;
import javax.tools.JavaCompiler;
import javax.tools.StandardJavaFileManager;
import javax.tools.ToolProvider;

/** Of the rules of LANGUAGE.md those that can be seen in the file; the class uses less than they leave. */
public final class LanguageTest extends TreePathScanner<Void, Void> {
    private static final String FILE = "src/main/java/ChestOfLetters.java";
    private static final int MOST_DEEP = 8;
    private static final int MOST_LINES = 60;
    private static final int MOST_PARAMETERS = 7;
    private static final int MOST_CLASSES = 12;
    private static final int MOST_FIELDS = 20;
    private static final Set<String> IMPORTS = Set.of("java.util.Arrays", "java.util.NoSuchElementException");
    private static final Set<String> LIBRARY = Set.of("Integer.bitCount", "Math.abs", "Math.max", "Math.min",
        "System.arraycopy", "Arrays.fill", "Arrays.copyOf", "Arrays.copyOfRange");
    private static final Set<String> THROWN = Set.of("NoSuchElementException");
    private static final Set<String> STATIC = Set.of("int", "long", "boolean", "char", "java.lang.String");

    private final Check check = new Check("LanguageTest");
    private final Trees trees;
    private final SourcePositions places;
    private final CompilationUnitTree unit;
    private final Map<String, Set<String>> calls = new LinkedHashMap<>();
    private final Map<String, Integer> deep = new LinkedHashMap<>();
    private int classes;
    private String method = "";

    private LanguageTest(Trees trees, CompilationUnitTree unit) {
        this.trees = trees;
        this.unit = unit;
        places = trees.getSourcePositions();
    }

    public static void main(String[] args) throws Exception {
        JavaCompiler compiler = ToolProvider.getSystemJavaCompiler();
        StandardJavaFileManager files = compiler.getStandardFileManager(null, null, null);
        JavacTask task = (JavacTask) compiler.getTask(null, files, null, List.of("-proc:none"), null, files.getJavaFileObjects(FILE));
        CompilationUnitTree unit = task.parse().iterator().next();
        task.analyze();
        LanguageTest test = new LanguageTest(Trees.instance(task), unit);
        test.scan(unit, null);
        test.whole(Files.readString(Path.of(FILE)));
        test.check.end();
    }

    private void due(String what, Object got, Object due) {
        check.due(what, got, due);
    }

    private void atMost(String what, int got, int most) {
        due(what + ", " + got + " of at most " + most, got <= most, true);
    }

    /** What only the file as a whole tells. */
    private void whole(String text) {
        due("no package", unit.getPackageName(), null);
        due("signs above 127", text.chars().filter(c -> c > 127).count(), 0L);
        atMost("classes", classes, MOST_CLASSES);
        for (String name : calls.keySet()) {
            atMost("deepest calls from " + name, depth(name), MOST_DEEP);
        }
    }

    private long line(long place) {
        return unit.getLineMap().getLineNumber(place);
    }

    private Element element(Tree tree) {
        return trees.getElement(new TreePath(getCurrentPath(), tree));
    }

    private static String nameOf(Element method) {
        return method.getEnclosingElement().getSimpleName() + "." + method.getSimpleName();
    }

    // ---- rules of single parts

    @Override
    public Void visitImport(ImportTree tree, Void none) {
        due("import " + tree.getQualifiedIdentifier(), IMPORTS.contains(tree.getQualifiedIdentifier().toString()), true);
        return null;
    }

    @Override
    public Void visitClass(ClassTree tree, Void none) {
        classes++;
        int fields = 0;
        for (Tree member : tree.getMembers()) {
            due("no initialiser block in " + tree.getSimpleName(), member.getKind() == Tree.Kind.BLOCK, false);
            boolean isField = member instanceof VariableTree
                && !((VariableTree) member).getModifiers().getFlags().contains(Modifier.STATIC);
            fields += isField ? 1 : 0;
        }
        atMost("fields of " + tree.getSimpleName(), fields, MOST_FIELDS);
        return super.visitClass(tree, none);
    }

    @Override
    public Void visitVariable(VariableTree tree, Void none) {
        Set<Modifier> flags = tree.getModifiers().getFlags();
        if (flags.contains(Modifier.STATIC)) {
            due("final " + tree.getName(), flags.contains(Modifier.FINAL), true);
            due("a constant " + tree.getName(), STATIC.contains(trees.getTypeMirror(getCurrentPath()).toString()), true);
        }
        return super.visitVariable(tree, none);
    }

    @Override
    public Void visitMethod(MethodTree tree, Void none) {
        method = nameOf(trees.getElement(getCurrentPath()));
        calls.putIfAbsent(method, new TreeSet<>());
        atMost("parameters of " + method, tree.getParameters().size(), MOST_PARAMETERS);
        long lines = line(places.getEndPosition(unit, tree)) - line(places.getStartPosition(unit, tree)) + 1;
        atMost("lines of " + method, (int) lines, MOST_LINES);
        super.visitMethod(tree, none);
        method = "";
        return null;
    }

    @Override
    public Void visitMethodInvocation(MethodInvocationTree tree, Void none) {
        Element called = element(tree);
        if (called.getKind() == ElementKind.CONSTRUCTOR) {
            return super.visitMethodInvocation(tree, none);
        }
        String name = nameOf(called);
        String from = ((TypeElement) called.getEnclosingElement()).getQualifiedName().toString();
        if (from.startsWith("java.")) {
            due("the library's " + name, LIBRARY.contains(name), true);
        } else {
            calls.computeIfAbsent(method, m -> new TreeSet<>()).add(name);
        }
        return super.visitMethodInvocation(tree, none);
    }

    @Override
    public Void visitThrow(ThrowTree tree, Void none) {
        ExpressionTree thrown = tree.getExpression();
        due("throw new: " + tree, thrown instanceof NewClassTree, true);
        if (thrown instanceof NewClassTree) {
            NewClassTree made = (NewClassTree) thrown;
            due("throw " + made.getIdentifier(), THROWN.contains(made.getIdentifier().toString()), true);
            due("a written text: " + tree, made.getArguments().stream().allMatch(a -> a instanceof LiteralTree), true);
        }
        due("no throw in a constructor: " + method, method.endsWith("<init>"), false);
        return super.visitThrow(tree, none);
    }

    @Override
    public Void visitNewClass(NewClassTree tree, Void none) {
        due("no class of its own where it is made: " + tree.getIdentifier(), tree.getClassBody(), null);
        boolean atBirth = method.isEmpty() || method.endsWith("<init>");
        boolean thrown = getCurrentPath().getParentPath().getLeaf() instanceof ThrowTree;
        due("made with the chest, or thrown: " + tree, atBirth || thrown, true);
        return super.visitNewClass(tree, none);
    }

    @Override
    public Void visitNewArray(NewArrayTree tree, Void none) {
        due("made with the chest: " + tree, method.isEmpty() || method.endsWith("<init>"), true);
        return super.visitNewArray(tree, none);
    }

    @Override
    public Void visitBinary(BinaryTree tree, Void none) {
        TypeMirror type = trees.getTypeMirror(getCurrentPath());
        due("joined by +: " + tree, type != null && type.toString().equals("java.lang.String"), false);
        return super.visitBinary(tree, none);
    }

    @Override
    public Void visitTry(TryTree tree, Void none) {
        due("no call throws to another one: " + method, "try", "");
        return super.visitTry(tree, none);
    }

    @Override
    public Void visitLambdaExpression(LambdaExpressionTree tree, Void none) {
        due("no lambda in " + method, "lambda", "");
        return super.visitLambdaExpression(tree, none);
    }

    @Override
    public Void visitMemberReference(MemberReferenceTree tree, Void none) {
        due("no method reference in " + method, "reference", "");
        return super.visitMemberReference(tree, none);
    }

    @Override
    public Void visitSynchronized(SynchronizedTree tree, Void none) {
        due("not synchronized " + method, "synchronized", "");
        return super.visitSynchronized(tree, none);
    }

    @Override
    public Void visitAssert(AssertTree tree, Void none) {
        due("no assert in " + method, "assert", "");
        return super.visitAssert(tree, none);
    }

    // ---- how deep calls go

    private void reach(String from, Set<String> met) {
        for (String next : calls.getOrDefault(from, Set.of())) {
            if (met.add(next)) {
                reach(next, met);
            }
        }
    }

    /** Methods that call one another count as one: calls that are recursion have a bound of their own. */
    private List<String> circle(String name) {
        List<String> circle = new ArrayList<>();
        circle.add(name);
        Set<String> met = new HashSet<>();
        reach(name, met);
        for (String other : met) {
            Set<String> back = new HashSet<>();
            reach(other, back);
            if (back.contains(name) && !other.equals(name)) {
                circle.add(other);
            }
        }
        return circle;
    }

    private int depth(String name) {
        if (deep.containsKey(name)) {
            return deep.get(name);
        }
        List<String> circle = circle(name);
        int behind = 0;
        for (String member : circle) {
            for (String next : calls.getOrDefault(member, Set.of())) {
                if (!circle.contains(next)) {
                    behind = Math.max(behind, depth(next));
                }
            }
        }
        deep.put(name, behind + 1);
        return behind + 1;
    }
}

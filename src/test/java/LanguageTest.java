import com.sun.source.tree.AssertTree;
import com.sun.source.tree.BinaryTree;
import com.sun.source.tree.BlockTree;
import com.sun.source.tree.CatchTree;
import com.sun.source.tree.ClassTree;
import com.sun.source.tree.CompilationUnitTree;
import com.sun.source.tree.DoWhileLoopTree;
import com.sun.source.tree.LambdaExpressionTree;
import com.sun.source.tree.LiteralTree;
import com.sun.source.tree.MemberReferenceTree;
import com.sun.source.tree.MethodInvocationTree;
import com.sun.source.tree.MethodTree;
import com.sun.source.tree.NewArrayTree;
import com.sun.source.tree.NewClassTree;
import com.sun.source.tree.SynchronizedTree;
import com.sun.source.tree.ThrowTree;
import com.sun.source.tree.Tree;
import com.sun.source.tree.TryTree;
import com.sun.source.tree.VariableTree;
import com.sun.source.tree.WhileLoopTree;
import com.sun.source.util.JavacTask;
import com.sun.source.util.SourcePositions;
import com.sun.source.util.TreePath;
import com.sun.source.util.TreePathScanner;
import com.sun.source.util.Trees;
import java.io.File;
import java.util.Arrays;
import java.util.HashMap;
import java.util.HashSet;
import java.util.List;
import java.util.Map;
import java.util.Set;
import java.util.TreeSet;
import javax.lang.model.element.Element;
import javax.lang.model.element.Modifier;
import javax.tools.JavaCompiler;
import javax.tools.StandardJavaFileManager;
import javax.tools.ToolProvider;

/** Those rules of LANGUAGE.md that a look at the source can tell: the face, the library, lengths and depths. */
public final class LanguageTest extends TreePathScanner<Void, Void> {
    private static final String SOURCE = "src/main/java/NineMilesOff.java";
    private static final Set<String> FACE = Set.of("land", "ground", "lays", "stands", "set", "go", "far", "steps",
        "pairs", "islands", "island", "middle", "see", "way", "hinders", "needs", "within", "ways", "rounds", "late",
        "hisWay", "letter", "third", "game", "snow", "mean", "curve", "judge", "seeds", "image", "restore", "count",
        "keep", "row", "put", "element", "copy", "cost", "toss");
    private static final Set<String> LIBRARY = Set.of("java.util.Arrays.fill", "java.util.Arrays.copyOf",
        "java.util.Arrays.copyOfRange", "java.lang.System.arraycopy", "java.lang.Math.max", "java.lang.Math.min",
        "java.lang.Math.abs", "java.lang.Math.floorDiv", "java.lang.Math.floorMod", "java.lang.Long.bitCount",
        "java.lang.Integer.bitCount", "java.lang.Object.<init>");
    private static final Set<String> TYPES = Set.of("void", "int", "long", "short", "byte", "char", "boolean", "String",
        "int[]", "long[]", "short[]", "byte[]", "char[]", "boolean[]");
    private static final Set<String> UNWANTED = Set.of("equals", "hashCode", "toString");
    private static final Set<String> THROWN = Set.of("IllegalStateException", "IllegalArgumentException",
        "UnsupportedOperationException");
    private static final int LINES = 60;
    private static final int PARAMETERS = 7;
    private static final int DEPTH = 8;
    private static final int CLASSES = 12;
    private static final int FIELDS = 20;

    private final Trees trees;
    private final SourcePositions places;
    private final CompilationUnitTree unit;
    private final Map<String, Set<String>> calls = new HashMap<>();
    private final Set<String> face = new HashSet<>();
    private final Set<String> own = new HashSet<>();
    private final Set<Tree> throwing = new HashSet<>();
    private final Set<Tree> catching = new HashSet<>();
    private int classes;
    private int wrong;

    private LanguageTest(Trees trees, CompilationUnitTree unit) {
        this.trees = trees;
        this.places = trees.getSourcePositions();
        this.unit = unit;
    }

    public static void main(String[] args) throws Exception {
        JavaCompiler compiler = ToolProvider.getSystemJavaCompiler();
        try (StandardJavaFileManager files = compiler.getStandardFileManager(null, null, null)) {
            JavacTask task = (JavacTask) compiler.getTask(null, files, null, List.of("-proc:none"), null,
                files.getJavaFileObjects(new File(SOURCE)));
            CompilationUnitTree unit = task.parse().iterator().next();
            task.analyze();
            LanguageTest test = new LanguageTest(Trees.instance(task), unit);
            test.nameClasses();
            test.scan(unit, null);
            test.whole();
            System.out.println(test.wrong == 0 ? "LanguageTest: as the rules say" : test.wrong + " against the rules");
            if (test.wrong != 0) {
                System.exit(1);
            }
        }
    }

    private void against(int rule, Tree tree, String what) {
        wrong++;
        long line = tree == null ? 0 : unit.getLineMap().getLineNumber(places.getStartPosition(unit, tree));
        System.out.println("rule " + rule + ", line " + line + ": " + what);
    }

    private void nameClasses() {
        ClassTree outer = (ClassTree) unit.getTypeDecls().get(0);
        own.add(outer.getSimpleName().toString());
        for (Tree member : outer.getMembers()) {
            if (member instanceof ClassTree) {
                own.add(((ClassTree) member).getSimpleName().toString());
            }
        }
    }

    private void whole() {
        if (!face.equals(FACE)) {
            against(1, null, "the face is " + new TreeSet<>(face));
        }
        for (Tree method : catching) {
            if (throwing.contains(method)) {
                against(6, method, "a method that throws and catches");
            }
        }
        if (classes > CLASSES) {
            against(11, null, classes + " classes");
        }
        for (String method : calls.keySet()) {
            int depth = depthOf(method, new HashSet<>());
            if (depth > DEPTH) {
                against(11, null, method + " goes " + depth + " deep");
            }
        }
    }

    private int depthOf(String method, Set<String> open) {
        if (!open.add(method)) {
            against(8, null, "recursion by " + method);
            return 0;
        }
        int deepest = 0;
        for (String called : calls.getOrDefault(method, Set.of())) {
            deepest = Math.max(deepest, depthOf(called, open));
        }
        open.remove(method);
        return deepest + 1;
    }

    private Tree enclosing(Class<? extends Tree> type) {
        TreePath path = getCurrentPath().getParentPath();
        while (path != null && !type.isInstance(path.getLeaf())) {
            path = path.getParentPath();
        }
        return path == null ? null : path.getLeaf();
    }

    private static boolean isConstructor(Tree tree) {
        return tree instanceof MethodTree && ((MethodTree) tree).getName().contentEquals("<init>");
    }

    /** Behind a constructor or a field: there alone objects are made, so that calls together make few. */
    private boolean isMadeOnce() {
        Tree method = enclosing(MethodTree.class);
        return method == null || isConstructor(method);
    }

    private void checkType(Tree type) {
        String name = String.valueOf(type);
        String single = name.endsWith("[]") ? name.substring(0, name.length() - 2) : name;
        boolean isException = enclosing(CatchTree.class) != null && THROWN.contains(name);
        if (type != null && !TYPES.contains(name) && !own.contains(single) && !isException) {
            against(3, type, "the type " + name);
        }
    }

    private boolean isOuter(Tree tree) {
        return tree instanceof ClassTree && ((ClassTree) tree).getSimpleName().contentEquals("NineMilesOff");
    }

    private String nameOf(Element method) {
        return method.getEnclosingElement() + "." + method.getSimpleName();
    }

    @Override
    public Void visitClass(ClassTree tree, Void none) {
        classes++;
        Set<Modifier> modifiers = tree.getModifiers().getFlags();
        if (!isOuter(tree) && !modifiers.contains(Modifier.STATIC)) {
            against(2, tree, "a class that is not static: " + tree.getSimpleName());
        }
        long fields = tree.getMembers().stream().filter(m -> m instanceof VariableTree
            && !((VariableTree) m).getModifiers().getFlags().contains(Modifier.STATIC)).count();
        if (fields > FIELDS) {
            against(11, tree, fields + " fields");
        }
        if (enclosing(MethodTree.class) != null) {
            against(2, tree, "a class in a method: " + tree.getSimpleName());
        }
        if (tree.getExtendsClause() != null && !own.contains(tree.getExtendsClause().toString())) {
            against(2, tree, "a class under " + tree.getExtendsClause());
        }
        for (Tree member : tree.getMembers()) {
            if (member instanceof BlockTree) {
                against(5, member, "an initialiser block");
            }
        }
        return super.visitClass(tree, none);
    }

    @Override
    public Void visitVariable(VariableTree tree, Void none) {
        checkType(tree.getType());
        if (getCurrentPath().getParentPath().getLeaf() instanceof ClassTree) {
            Set<Modifier> modifiers = tree.getModifiers().getFlags();
            if (isOuter(getCurrentPath().getParentPath().getLeaf()) && !modifiers.contains(Modifier.PRIVATE)) {
                against(1, tree, "a field that is not private: " + tree.getName());
            }
            if (modifiers.contains(Modifier.STATIC) && !modifiers.contains(Modifier.FINAL)) {
                against(5, tree, "static state: " + tree.getName());
            }
        }
        return super.visitVariable(tree, none);
    }

    @Override
    public Void visitMethod(MethodTree tree, Void none) {
        Set<Modifier> modifiers = tree.getModifiers().getFlags();
        String name = tree.getName().toString();
        checkType(tree.getReturnType());
        if (UNWANTED.contains(name)) {
            against(6, tree, "a method " + name);
        }
        boolean outer = isOuter(getCurrentPath().getParentPath().getLeaf());
        if (outer && modifiers.contains(Modifier.PUBLIC) && !name.equals("<init>")) {
            face.add(name);
        } else if (FACE.contains(name)) {
            against(1, tree, "a method with a name of the face: " + name);
        } else if (outer && !modifiers.contains(Modifier.PRIVATE) && !name.equals("<init>")) {
            against(1, tree, "a method that is not private: " + name);
        }
        if (tree.getParameters().size() > PARAMETERS) {
            against(11, tree, name + " takes " + tree.getParameters().size());
        }
        long first = unit.getLineMap().getLineNumber(Math.max(0, places.getStartPosition(unit, tree)));
        long last = unit.getLineMap().getLineNumber(Math.max(0, places.getEndPosition(unit, tree)));
        if (last - first + 1 > LINES) {
            against(11, tree, name + " has " + (last - first + 1) + " lines");
        }
        return super.visitMethod(tree, none);
    }

    @Override
    public Void visitMethodInvocation(MethodInvocationTree tree, Void none) {
        Element called = trees.getElement(new TreePath(getCurrentPath(), tree.getMethodSelect()));
        String name = nameOf(called);
        if (name.startsWith("NineMilesOff")) {
            MethodTree from = (MethodTree) enclosing(MethodTree.class);
            Element caller = trees.getElement(trees.getPath(unit, from));
            calls.computeIfAbsent(nameOf(caller), k -> new TreeSet<>()).add(name);
        } else if (!name.startsWith("java.lang.Object.") && !LIBRARY.contains(name)) {
            against(4, tree, name);
        }
        return super.visitMethodInvocation(tree, none);
    }

    @Override
    public Void visitNewClass(NewClassTree tree, Void none) {
        boolean thrown = getCurrentPath().getParentPath().getLeaf() instanceof ThrowTree;
        if (thrown && !THROWN.contains(tree.getIdentifier().toString())) {
            against(6, tree, "thrown: " + tree.getIdentifier());
        }
        if (!thrown && !isMadeOnce()) {
            against(12, tree, "an object made by a call: " + tree.getIdentifier());
        }
        return super.visitNewClass(tree, none);
    }

    @Override
    public Void visitNewArray(NewArrayTree tree, Void none) {
        if (!isMadeOnce()) {
            against(12, tree, "an array made by a call: " + tree.getType());
        }
        return super.visitNewArray(tree, none);
    }

    @Override
    public Void visitThrow(ThrowTree tree, Void none) {
        if (!(tree.getExpression() instanceof NewClassTree)) {
            against(6, tree, "a rethrow");
        }
        if (isConstructor(enclosing(MethodTree.class))) {
            against(6, tree, "a throw in a constructor");
        }
        throwing.add(enclosing(MethodTree.class));
        return super.visitThrow(tree, none);
    }

    @Override
    public Void visitTry(TryTree tree, Void none) {
        if (tree.getFinallyBlock() != null || !tree.getResources().isEmpty()) {
            against(6, tree, "finally or resources");
        }
        catching.add(enclosing(MethodTree.class));
        return super.visitTry(tree, none);
    }

    @Override
    public Void visitCatch(CatchTree tree, Void none) {
        if (!THROWN.contains(tree.getParameter().getType().toString())) {
            against(6, tree, "caught: " + tree.getParameter().getType());
        }
        return super.visitCatch(tree, none);
    }

    @Override
    public Void visitBinary(BinaryTree tree, Void none) {
        List<Tree> sides = Arrays.asList(tree.getLeftOperand(), tree.getRightOperand());
        for (Tree side : sides) {
            if (side instanceof LiteralTree && ((LiteralTree) side).getValue() instanceof String) {
                against(10, tree, "a text joined");
            }
        }
        return super.visitBinary(tree, none);
    }

    @Override
    public Void visitLiteral(LiteralTree tree, Void none) {
        Object value = tree.getValue();
        String text = value instanceof String || value instanceof Character ? value.toString() : "";
        if (text.chars().anyMatch(sign -> sign < 1 || sign > 127)) {
            against(4, tree, "a sign that a text may not hold");
        }
        return super.visitLiteral(tree, none);
    }

    @Override
    public Void visitLambdaExpression(LambdaExpressionTree tree, Void none) {
        against(2, tree, "a lambda");
        return null;
    }

    @Override
    public Void visitMemberReference(MemberReferenceTree tree, Void none) {
        against(2, tree, "a method reference");
        return null;
    }

    @Override
    public Void visitSynchronized(SynchronizedTree tree, Void none) {
        against(6, tree, "synchronized");
        return null;
    }

    @Override
    public Void visitAssert(AssertTree tree, Void none) {
        against(6, tree, "assert");
        return null;
    }

    @Override
    public Void visitWhileLoop(WhileLoopTree tree, Void none) {
        against(9, tree, "a loop without a counter");
        return super.visitWhileLoop(tree, none);
    }

    @Override
    public Void visitDoWhileLoop(DoWhileLoopTree tree, Void none) {
        against(9, tree, "a loop without a counter");
        return super.visitDoWhileLoop(tree, none);
    }
}

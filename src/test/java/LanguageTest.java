import com.sun.source.tree.ArrayTypeTree;
import com.sun.source.tree.AssertTree;
import com.sun.source.tree.BlockTree;
import com.sun.source.tree.ClassTree;
import com.sun.source.tree.CompilationUnitTree;
import com.sun.source.tree.ImportTree;
import com.sun.source.tree.LambdaExpressionTree;
import com.sun.source.tree.LiteralTree;
import com.sun.source.tree.MemberReferenceTree;
import com.sun.source.tree.MethodInvocationTree;
import com.sun.source.tree.MethodTree;
import com.sun.source.tree.NewArrayTree;
import com.sun.source.tree.NewClassTree;
import com.sun.source.tree.SynchronizedTree;
import com.sun.source.tree.ThrowTree;
import com.sun.source.tree.Tree;
import com.sun.source.tree.TryTree;
import com.sun.source.tree.VariableTree;
import com.sun.source.util.JavacTask;
import com.sun.source.util.TreePath;
import com.sun.source.util.TreePathScanner;
import com.sun.source.util.Trees;
import java.io.IOException;
import java.nio.file.Files;
import java.nio.file.Path;
import java.util.HashMap;
import java.util.HashSet;
import java.util.List;
import java.util.Map;
import java.util.Set;
import java.util.TreeSet;
import javax.lang.model.element.Element;
import javax.lang.model.element.ExecutableElement;
import javax.lang.model.element.Modifier;
import javax.lang.model.element.TypeElement;
import javax.tools.JavaCompiler;
import javax.tools.StandardJavaFileManager;
import javax.tools.ToolProvider;

/** What of LANGUAGE.md can be seen in the file itself, by the compiler's own tree of it. */
public final class LanguageTest extends TreePathScanner<Void, Void> {
    private static final Check check = new Check();
    private static final Path FILE = Path.of("src/main/java/PartingTrains.java");
    // Of what rule 4 allows, the part that the class uses; let in more of it here when it is needed.
    private static final Set<String> LIBRARY = Set.of("java.lang.Integer.bitCount", "java.lang.Math.abs",
            "java.lang.Math.max", "java.lang.Math.min", "java.lang.String.charAt", "java.lang.String.length",
            "java.lang.System.arraycopy", "java.util.Arrays.fill", "java.lang.Object.<init>");
    private static final Set<String> IMPORTS = Set.of("java.util.Arrays", "java.util.NoSuchElementException");
    private static final Set<String> THROWN = Set.of("IllegalStateException", "IllegalArgumentException",
            "IndexOutOfBoundsException", "NoSuchElementException");
    private static final Set<String> CONSTANTS = Set.of("int", "long", "boolean", "char", "String", "int[]", "long[]",
            "char[]", "byte[]");
    private static final int MOST_LINES = 60;
    private static final int MOST_PARAMETERS = 7;
    private static final int MOST_CLASSES = 12;
    private static final int MOST_FIELDS = 20;
    private static final int MOST_DEEP = 8;

    private final Trees trees;
    private final CompilationUnitTree unit;
    private int classes = 0;
    private final Map<String, Set<String>> calls = new HashMap<>();

    private LanguageTest(Trees trees, CompilationUnitTree unit) {
        this.trees = trees;
        this.unit = unit;
    }

    public static void main(String[] args) throws IOException {
        JavaCompiler compiler = ToolProvider.getSystemJavaCompiler();
        try (StandardJavaFileManager files = compiler.getStandardFileManager(null, null, null)) {
            JavacTask task = (JavacTask) compiler.getTask(null, files, null, List.of("-proc:none"), null,
                    files.getJavaFileObjects(FILE));
            CompilationUnitTree unit = task.parse().iterator().next();
            task.analyze();
            LanguageTest test = new LanguageTest(Trees.instance(task), unit);
            test.scan(unit, null);
            check.due("rule 11: classes", test.classes <= MOST_CLASSES, true);
            test.depths();
        }
        signs();
        room();
        check.end("LanguageTest");
    }

    private String where(Tree tree) {
        long from = trees.getSourcePositions().getStartPosition(unit, tree);
        return " in line " + unit.getLineMap().getLineNumber(from);
    }

    private void never(String rule, Tree tree) {
        check.due(rule + where(tree), true, false);
    }

    private boolean isInside(Tree.Kind kind) {
        for (TreePath path = getCurrentPath().getParentPath(); path != null; path = path.getParentPath()) {
            if (path.getLeaf().getKind() == kind) {
                return true;
            }
        }
        return false;
    }

    private MethodTree method() {
        for (TreePath path = getCurrentPath(); path != null; path = path.getParentPath()) {
            if (path.getLeaf() instanceof MethodTree m) {
                return m;
            }
        }
        return null;
    }

    private static boolean isConstructor(MethodTree method) {
        return method.getReturnType() == null;
    }

    @Override
    public Void visitCompilationUnit(CompilationUnitTree node, Void nothing) {
        check.due("no package", node.getPackage() == null, true);
        return super.visitCompilationUnit(node, nothing);
    }

    @Override
    public Void visitImport(ImportTree node, Void nothing) {
        String name = node.getQualifiedIdentifier().toString();
        check.due("rule 4: import of " + name, !node.isStatic() && IMPORTS.contains(name), true);
        // The names of an import are no uses.
        return null;
    }

    @Override
    public Void visitClass(ClassTree node, Void nothing) {
        classes++;
        check.due("rule 2: no class in a method" + where(node), method() == null, true);
        int fields = 0;
        for (Tree member : node.getMembers()) {
            if (member instanceof VariableTree field) {
                Set<Modifier> modifiers = field.getModifiers().getFlags();
                if (modifiers.contains(Modifier.STATIC)) {
                    boolean constant = modifiers.contains(Modifier.FINAL) && CONSTANTS.contains(field.getType().toString());
                    check.due("rule 5: " + field.getName(), constant, true);
                } else {
                    fields++;
                }
            }
            if (member instanceof BlockTree) {
                never("rule 5: a block of a class", member);
            }
        }
        check.due("rule 11: " + fields + " fields of " + node.getSimpleName(), fields <= MOST_FIELDS, true);
        return super.visitClass(node, nothing);
    }

    @Override
    public Void visitMethod(MethodTree node, Void nothing) {
        long from = trees.getSourcePositions().getStartPosition(unit, node);
        long to = trees.getSourcePositions().getEndPosition(unit, node);
        // A constructor that is not written stands where its class does, and has no end.
        if (to > from) {
            long lines = unit.getLineMap().getLineNumber(to) - unit.getLineMap().getLineNumber(from) + 1;
            check.due("rule 11: lines of " + node.getName(), lines <= MOST_LINES, true);
        }
        check.due("rule 11: parameters of " + node.getName(), node.getParameters().size() <= MOST_PARAMETERS, true);
        calls.computeIfAbsent(nameOf(trees.getElement(getCurrentPath())), key -> new TreeSet<>());
        return super.visitMethod(node, nothing);
    }

    private static String nameOf(Element method) {
        return method.getEnclosingElement() + "." + method.getSimpleName();
    }

    @Override
    public Void visitMethodInvocation(MethodInvocationTree node, Void nothing) {
        called(trees.getElement(getCurrentPath()), node);
        return super.visitMethodInvocation(node, nothing);
    }

    private void called(Element target, Tree node) {
        if (!(target instanceof ExecutableElement)) {
            never("a call of nothing", node);
            return;
        }
        String name = nameOf(target);
        TypeElement owner = (TypeElement) target.getEnclosingElement();
        if (owner.getQualifiedName().toString().startsWith("PartingTrains")) {
            MethodTree from = method();
            if (from != null) {
                calls.computeIfAbsent(nameOf(trees.getElement(trees.getPath(unit, from))), key -> new TreeSet<>()).add(name);
            }
        } else if (!isInside(Tree.Kind.THROW)) {
            check.due("rule 4: " + name + where(node), LIBRARY.contains(name), true);
        }
    }

    @Override
    public Void visitNewClass(NewClassTree node, Void nothing) {
        called(trees.getElement(getCurrentPath()), node);
        check.due("rule 2: no class of its own" + where(node), node.getClassBody() == null, true);
        madeAtFirst(node);
        return super.visitNewClass(node, nothing);
    }

    @Override
    public Void visitNewArray(NewArrayTree node, Void nothing) {
        check.due("rule 3: dimensions" + where(node), node.getDimensions().size() <= 1, true);
        madeAtFirst(node);
        return super.visitNewArray(node, nothing);
    }

    /** What calls make stays in the room, so all but exceptions is made when the object is. */
    private void madeAtFirst(Tree node) {
        MethodTree method = method();
        boolean first = method == null || isConstructor(method) || isInside(Tree.Kind.THROW);
        check.due("rule 12: made by a call" + where(node), first, true);
    }

    @Override
    public Void visitArrayType(ArrayTypeTree node, Void nothing) {
        check.due("rule 3: dimensions" + where(node), node.getType() instanceof ArrayTypeTree, false);
        return super.visitArrayType(node, nothing);
    }

    @Override
    public Void visitThrow(ThrowTree node, Void nothing) {
        boolean good = node.getExpression() instanceof NewClassTree made
                && THROWN.contains(made.getIdentifier().toString())
                && made.getArguments().stream().allMatch(a -> a instanceof LiteralTree);
        check.due("rule 6: throw" + where(node), good, true);
        check.due("rule 6: throw in a constructor" + where(node), isConstructor(method()), false);
        return super.visitThrow(node, nothing);
    }

    @Override
    public Void visitTry(TryTree node, Void nothing) {
        never("no call catches anything: try", node);
        return null;
    }

    @Override
    public Void visitLambdaExpression(LambdaExpressionTree node, Void nothing) {
        never("rule 2: lambda", node);
        return null;
    }

    @Override
    public Void visitMemberReference(MemberReferenceTree node, Void nothing) {
        never("rule 2: method reference", node);
        return null;
    }

    @Override
    public Void visitSynchronized(SynchronizedTree node, Void nothing) {
        never("rule 6: synchronized", node);
        return null;
    }

    @Override
    public Void visitAssert(AssertTree node, Void nothing) {
        never("rule 6: assert", node);
        return null;
    }

    /** Calls stand at most eight deep, one that calls itself counted once; only two methods call themselves. */
    private void depths() {
        Set<String> again = new TreeSet<>();
        for (String name : calls.keySet()) {
            check.due("rule 11: depth of " + name, depth(name, new HashSet<>(), again) <= MOST_DEEP, true);
        }
        check.due("rule 8: recursion", String.join(" ", again), "PartingTrains.Grouping.search PartingTrains.Roster.findsNext");
    }

    private int depth(String name, Set<String> open, Set<String> again) {
        if (!open.add(name)) {
            again.add(name);
            return 0;
        }
        int deepest = 0;
        for (String next : calls.getOrDefault(name, Set.of())) {
            deepest = Math.max(deepest, depth(next, open, again));
        }
        open.remove(name);
        return deepest + 1;
    }

    private static void signs() throws IOException {
        boolean plain = true;
        for (byte sign : Files.readAllBytes(FILE)) {
            plain &= sign == '\n' || sign >= ' ' && sign < 127;
        }
        check.due("rule 4: signs 1 to 127", plain, true);
    }

    /** All objects and elements of one object of the class, counted through its fields. */
    private static void room() {
        Room room = new Room();
        room.count(new PartingTrains());
        // Nothing is made behind the constructor, so a hundred objects of one run fit well.
        check.due("objects: " + room.objects, room.objects * 100L < 600_000, true);
        check.due("fields and elements: " + room.elements, room.elements * 100L < 7_300_000, true);
    }

    /** Walks through what an object holds. */
    private static final class Room {
        final Set<Object> seen = java.util.Collections.newSetFromMap(new java.util.IdentityHashMap<>());
        long objects = 0;
        long elements = 0;

        void count(Object thing) {
            if (thing == null || !seen.add(thing)) {
                return;
            }
            objects++;
            if (thing.getClass().isArray()) {
                elements += java.lang.reflect.Array.getLength(thing);
                if (thing instanceof Object[] row) {
                    for (Object one : row) {
                        count(one);
                    }
                }
                return;
            }
            for (java.lang.reflect.Field field : thing.getClass().getDeclaredFields()) {
                if (!java.lang.reflect.Modifier.isStatic(field.getModifiers())) {
                    elements++;
                    if (!field.getType().isPrimitive()) {
                        count(held(field, thing));
                    }
                }
            }
        }

        private static Object held(java.lang.reflect.Field field, Object thing) {
            try {
                field.setAccessible(true);
                return field.get(thing);
            } catch (IllegalAccessException e) {
                throw new IllegalStateException(e);
            }
        }
    }
}

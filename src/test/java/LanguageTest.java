import com.sun.source.tree.AssertTree;
import com.sun.source.tree.BinaryTree;
import com.sun.source.tree.BlockTree;
import com.sun.source.tree.ClassTree;
import com.sun.source.tree.CompilationUnitTree;
import com.sun.source.tree.DoWhileLoopTree;
import com.sun.source.tree.EnhancedForLoopTree;
import com.sun.source.tree.ExpressionTree;
import com.sun.source.tree.ForLoopTree;
import com.sun.source.tree.LambdaExpressionTree;
import com.sun.source.tree.LiteralTree;
import com.sun.source.tree.MemberReferenceTree;
import com.sun.source.tree.MethodInvocationTree;
import com.sun.source.tree.MethodTree;
import com.sun.source.tree.NewArrayTree;
import com.sun.source.tree.NewClassTree;
import com.sun.source.tree.SynchronizedTree;
import com.sun.source.tree.ThrowTree;
import com.sun.source.tree.Tree;
import com.sun.source.tree.TryTree;
import com.sun.source.tree.TypeCastTree;
import com.sun.source.tree.VariableTree;
import com.sun.source.util.JavacTask;
import com.sun.source.util.TreePath;
import com.sun.source.util.TreePathScanner;
import com.sun.source.util.Trees;
import java.lang.reflect.Array;
import java.lang.reflect.Field;
import java.lang.reflect.Modifier;
import java.nio.file.Files;
import java.nio.file.Path;
import java.util.ArrayDeque;
import java.util.Deque;
import java.util.HashMap;
import java.util.HashSet;
import java.util.IdentityHashMap;
import java.util.List;
import java.util.Map;
import java.util.Set;
import java.util.TreeMap;
import java.util.TreeSet;
import javax.lang.model.element.Element;
import javax.lang.model.element.ElementKind;
import javax.lang.model.element.VariableElement;
import javax.lang.model.type.ArrayType;
import javax.lang.model.type.TypeKind;
import javax.lang.model.type.TypeMirror;
import javax.tools.JavaCompiler;
import javax.tools.StandardJavaFileManager;
import javax.tools.ToolProvider;

/**
 * The rules of ../shared/LANGUAGE.md, as far as they can be read off the program's tree, by their numbers; the face
 * (rule 1) is FaceTest's. Where a rule allows more than the program needs, the test asks for what the program does.
 */
public final class LanguageTest {
    static final Path PROGRAM = Path.of("src/main/java/ShingleHouse.java");
    static final int MOST_LINES = 60;
    static final int MOST_DEEP = 8;
    static final int MOST_CLASSES = 12;
    static final int MOST_FIELDS = 20;
    static final int MOST_PARAMETERS = 7;
    /** The room of a run, for a hundred objects of the largest kind. */
    static final int MOST_ELEMENTS = 73000;
    static final int MOST_OBJECTS = 6000;

    static final Set<String> LIBRARY = Set.of("java.lang.System.arraycopy", "java.util.Arrays.fill",
        "java.lang.Math.max", "java.lang.Math.min", "java.lang.Long.bitCount");
    /** Divisors that are no constants: the Disk's constructor brings them to 64 or more, and they are final. */
    static final Set<String> NEVER_ZERO = Set.of("bandSize", "disk.bandSize", "disk.places");

    static int wrong = 0;

    static void expect(int rule, String what, boolean right) {
        if (!right) {
            wrong++;
            System.out.println("rule " + rule + ": " + what);
        }
    }

    static final class Reader extends TreePathScanner<Void, Void> {
        final Trees trees;
        final CompilationUnitTree unit;
        final Map<Element, Set<Element>> calls = new HashMap<>();
        final Deque<MethodTree> methods = new ArrayDeque<>();
        int classes;

        Reader(Trees trees, CompilationUnitTree unit) {
            this.trees = trees;
            this.unit = unit;
        }

        long lineOf(long position) {
            return unit.getLineMap().getLineNumber(position);
        }

        String at(Tree tree) {
            return "line " + lineOf(trees.getSourcePositions().getStartPosition(unit, tree)) + ": "
                + tree.toString().lines().findFirst().orElse("");
        }

        Element element(Tree tree) {
            return trees.getElement(new TreePath(getCurrentPath(), tree));
        }

        TypeMirror type(Tree tree) {
            return trees.getTypeMirror(new TreePath(getCurrentPath(), tree));
        }

        boolean isOwn(Element e) {
            return e.toString().startsWith("ShingleHouse") || e.getEnclosingElement() != null
                && e.getEnclosingElement().toString().startsWith("ShingleHouse");
        }

        boolean inConstructor() {
            return !methods.isEmpty() && methods.peek().getReturnType() == null;
        }

        @Override
        public Void visitClass(ClassTree tree, Void none) {
            classes++;
            boolean outer = getCurrentPath().getParentPath().getLeaf() instanceof CompilationUnitTree;
            boolean inside = getCurrentPath().getParentPath().getLeaf() instanceof ClassTree;
            expect(2, at(tree) + " is no class of the file's one class", outer || inside);
            expect(2, at(tree) + " is not static", outer
                || tree.getModifiers().getFlags().contains(javax.lang.model.element.Modifier.STATIC));
            int fields = 0;
            for (Tree member : tree.getMembers()) {
                expect(5, at(member) + " is an initialiser block", !(member instanceof BlockTree));
                if (member instanceof VariableTree v
                    && !v.getModifiers().getFlags().contains(javax.lang.model.element.Modifier.STATIC)) {
                    fields++;
                }
            }
            expect(11, at(tree) + " has " + fields + " fields", fields <= MOST_FIELDS);
            return super.visitClass(tree, none);
        }

        @Override
        public Void visitVariable(VariableTree tree, Void none) {
            TypeMirror type = trees.getTypeMirror(getCurrentPath());
            boolean plain = type.getKind().isPrimitive() && type.getKind() != TypeKind.DOUBLE
                && type.getKind() != TypeKind.FLOAT;
            boolean plainRow = type instanceof ArrayType row && row.getComponentType().getKind().isPrimitive();
            boolean own = type.toString().startsWith("ShingleHouse.");
            expect(3, at(tree) + " is of another type", plain || plainRow || own);
            if (tree.getModifiers().getFlags().contains(javax.lang.model.element.Modifier.STATIC)) {
                Object value = ((VariableElement) trees.getElement(getCurrentPath())).getConstantValue();
                expect(5, at(tree) + " is no constant", value != null);
            }
            return super.visitVariable(tree, none);
        }

        @Override
        public Void visitMethod(MethodTree tree, Void none) {
            long first = lineOf(trees.getSourcePositions().getStartPosition(unit, tree));
            long last = lineOf(trees.getSourcePositions().getEndPosition(unit, tree));
            expect(11, at(tree) + " has " + (last - first + 1) + " lines", last - first < MOST_LINES);
            expect(11, at(tree) + " takes too many", tree.getParameters().size() <= MOST_PARAMETERS);
            methods.push(tree);
            calls.computeIfAbsent(trees.getElement(getCurrentPath()), e -> new HashSet<>());
            super.visitMethod(tree, none);
            methods.pop();
            return null;
        }

        void called(Element to) {
            if (!methods.isEmpty() && isOwn(to)) {
                TreePath path = getCurrentPath();
                while (!(path.getLeaf() instanceof MethodTree)) {
                    path = path.getParentPath();
                }
                calls.computeIfAbsent(trees.getElement(path), e -> new HashSet<>()).add(to);
            }
        }

        @Override
        public Void visitMethodInvocation(MethodInvocationTree tree, Void none) {
            Element to = element(tree.getMethodSelect());
            String name = to.getEnclosingElement() + "." + to.getSimpleName();
            boolean implied = name.equals("java.lang.Object.<init>");
            expect(4, at(tree) + " calls " + name, implied || isOwn(to) || LIBRARY.contains(name));
            called(to);
            return super.visitMethodInvocation(tree, none);
        }

        @Override
        public Void visitNewClass(NewClassTree tree, Void none) {
            expect(2, at(tree) + " is an anonymous class", tree.getClassBody() == null);
            expect(12, at(tree) + " is made by a call", inConstructor());
            Element to = element(tree);
            expect(4, at(tree) + " is none of the program's classes", isOwn(to.getEnclosingElement()));
            called(to);
            return super.visitNewClass(tree, none);
        }

        @Override
        public Void visitNewArray(NewArrayTree tree, Void none) {
            expect(12, at(tree) + " is made by a call", inConstructor());
            boolean oneRow = tree.getDimensions().size() == 1 && tree.getInitializers() == null;
            expect(3, at(tree) + " has another form", oneRow);
            return super.visitNewArray(tree, none);
        }

        @Override
        public Void visitTypeCast(TypeCastTree tree, Void none) {
            expect(6, at(tree) + " casts an object", type(tree.getType()).getKind().isPrimitive());
            return super.visitTypeCast(tree, none);
        }

        @Override
        public Void visitBinary(BinaryTree tree, Void none) {
            expect(10, at(tree) + " is no number", trees.getTypeMirror(getCurrentPath()).getKind().isPrimitive());
            if (tree.getKind() == Tree.Kind.DIVIDE || tree.getKind() == Tree.Kind.REMAINDER) {
                expect(7, at(tree) + " has a divisor that may be 0", isNeverZero(tree.getRightOperand()));
            }
            if (tree.getKind() == Tree.Kind.EQUAL_TO || tree.getKind() == Tree.Kind.NOT_EQUAL_TO) {
                expect(6, at(tree) + " compares objects", type(tree.getLeftOperand()).getKind().isPrimitive());
            }
            return super.visitBinary(tree, none);
        }

        boolean isNeverZero(ExpressionTree divisor) {
            if (divisor instanceof LiteralTree literal) {
                return !literal.getValue().equals(0);
            }
            Element e = element(divisor);
            if (e != null && e.getKind() == ElementKind.FIELD && ((VariableElement) e).getConstantValue() != null) {
                return !((VariableElement) e).getConstantValue().equals(0);
            }
            return NEVER_ZERO.contains(divisor.toString());
        }

        void checkLoop(Tree loop, ExpressionTree condition) {
            String text = condition == null ? "" : condition.toString();
            expect(9, at(loop) + " has no bound", text.contains("<") || text.contains(">"));
        }

        @Override
        public Void visitForLoop(ForLoopTree tree, Void none) {
            checkLoop(tree, tree.getCondition());
            return super.visitForLoop(tree, none);
        }

        @Override
        public Void visitWhileLoop(com.sun.source.tree.WhileLoopTree tree, Void none) {
            checkLoop(tree, tree.getCondition());
            return super.visitWhileLoop(tree, none);
        }

        @Override
        public Void visitDoWhileLoop(DoWhileLoopTree tree, Void none) {
            checkLoop(tree, tree.getCondition());
            return super.visitDoWhileLoop(tree, none);
        }

        @Override
        public Void visitEnhancedForLoop(EnhancedForLoopTree tree, Void none) {
            expect(12, at(tree) + " may make an iterator", type(tree.getExpression()).getKind() == TypeKind.ARRAY);
            return super.visitEnhancedForLoop(tree, none);
        }

        @Override
        public Void visitThrow(ThrowTree tree, Void none) {
            expect(6, at(tree), false);
            return super.visitThrow(tree, none);
        }

        @Override
        public Void visitTry(TryTree tree, Void none) {
            expect(6, at(tree), false);
            return super.visitTry(tree, none);
        }

        @Override
        public Void visitSynchronized(SynchronizedTree tree, Void none) {
            expect(6, at(tree), false);
            return super.visitSynchronized(tree, none);
        }

        @Override
        public Void visitAssert(AssertTree tree, Void none) {
            expect(6, at(tree), false);
            return super.visitAssert(tree, none);
        }

        @Override
        public Void visitLambdaExpression(LambdaExpressionTree tree, Void none) {
            expect(2, at(tree), false);
            return super.visitLambdaExpression(tree, none);
        }

        @Override
        public Void visitMemberReference(MemberReferenceTree tree, Void none) {
            expect(2, at(tree), false);
            return super.visitMemberReference(tree, none);
        }
    }

    /** How many methods stand open at once below one, itself with them. */
    static int depth(Element method, Map<Element, Set<Element>> calls, Map<Element, Integer> known, Set<Element> open) {
        if (known.containsKey(method)) {
            return known.get(method);
        }
        expect(8, method + " comes to itself", open.add(method));
        int deepest = 0;
        for (Element to : calls.getOrDefault(method, Set.of())) {
            if (!open.contains(to)) {
                deepest = Math.max(deepest, depth(to, calls, known, open));
            } else {
                expect(8, to + " comes to itself", false);
            }
        }
        open.remove(method);
        known.put(method, deepest + 1);
        return deepest + 1;
    }

    static Reader read() throws Exception {
        JavaCompiler compiler = ToolProvider.getSystemJavaCompiler();
        StandardJavaFileManager files = compiler.getStandardFileManager(null, null, null);
        JavacTask task = (JavacTask) compiler.getTask(null, files, null, List.of("-proc:none"), null,
            files.getJavaFileObjects(PROGRAM.toFile()));
        CompilationUnitTree unit = task.parse().iterator().next();
        task.analyze();
        expect(1, "there is a package line", unit.getPackageName() == null);
        Reader reader = new Reader(Trees.instance(task), unit);
        reader.scan(unit, null);
        return reader;
    }

    static void checkDepth(Reader reader) {
        Map<Element, Integer> known = new HashMap<>();
        Map<Integer, Set<String>> byDepth = new TreeMap<>();
        for (Element method : reader.calls.keySet()) {
            int n = depth(method, reader.calls, known, new HashSet<>());
            byDepth.computeIfAbsent(n, k -> new TreeSet<>()).add(method.toString());
            expect(11, method + " goes " + n + " deep", n <= MOST_DEEP);
        }
        System.out.println(reader.calls.size() + " methods, at most " + byDepth.keySet().stream().max(Integer::compare)
            .orElse(0) + " open at once");
    }

    /** What the largest object keeps, with all that hangs on it. */
    static void checkRoom() throws Exception {
        Map<Object, Boolean> seen = new IdentityHashMap<>();
        Deque<Object> next = new ArrayDeque<>();
        next.push(new ShingleHouse(8, 32, 4, 256));
        long elements = 0;
        while (!next.isEmpty()) {
            Object o = next.pop();
            if (seen.put(o, true) != null) {
                continue;
            }
            if (o.getClass().isArray()) {
                elements += Array.getLength(o);
                continue;
            }
            for (Field f : o.getClass().getDeclaredFields()) {
                if (!Modifier.isStatic(f.getModifiers())) {
                    elements++;
                    f.setAccessible(true);
                    if (!f.getType().isPrimitive() && f.get(o) != null) {
                        next.push(f.get(o));
                    }
                }
            }
        }
        expect(12, "an object keeps " + seen.size() + " objects", seen.size() <= MOST_OBJECTS);
        expect(12, "an object keeps " + elements + " elements", elements <= MOST_ELEMENTS);
        System.out.println("the largest object keeps " + seen.size() + " objects, " + elements + " elements");
    }

    public static void main(String[] args) throws Exception {
        Reader reader = read();
        expect(11, "there are " + reader.classes + " classes", reader.classes <= MOST_CLASSES);
        checkDepth(reader);
        checkRoom();
        expect(3, "a character is above 255", Files.readString(PROGRAM).chars().allMatch(c -> c < 256));
        System.out.println(wrong == 0 ? "the rules are kept" : wrong + " things are not as the rules say");
        if (wrong != 0) {
            System.exit(1);
        }
    }
}

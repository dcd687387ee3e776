import com.sun.source.tree.AnnotationTree;
import com.sun.source.tree.AssertTree;
import com.sun.source.tree.BinaryTree;
import com.sun.source.tree.BlockTree;
import com.sun.source.tree.ClassTree;
import com.sun.source.tree.CompilationUnitTree;
import com.sun.source.tree.CompoundAssignmentTree;
import com.sun.source.tree.DoWhileLoopTree;
import com.sun.source.tree.ForLoopTree;
import com.sun.source.tree.ImportTree;
import com.sun.source.tree.LambdaExpressionTree;
import com.sun.source.tree.MemberReferenceTree;
import com.sun.source.tree.MethodInvocationTree;
import com.sun.source.tree.MethodTree;
import com.sun.source.tree.NewClassTree;
import com.sun.source.tree.SynchronizedTree;
import com.sun.source.tree.ThrowTree;
import com.sun.source.tree.Tree;
import com.sun.source.tree.TryTree;
import com.sun.source.tree.VariableTree;
import com.sun.source.tree.WhileLoopTree;
import com.sun.source.util.JavacTask;
import com.sun.source.util.SourcePositions;
import com.sun.source.util.TreePathScanner;
import com.sun.source.util.Trees;
import java.io.IOException;
import java.net.URI;
import java.nio.file.Path;
import java.util.ArrayList;
import java.util.HashSet;
import java.util.LinkedHashMap;
import java.util.LinkedHashSet;
import java.util.List;
import java.util.Map;
import java.util.Set;
import javax.lang.model.element.Element;
import javax.lang.model.element.ElementKind;
import javax.lang.model.element.ExecutableElement;
import javax.lang.model.element.Modifier;
import javax.lang.model.element.TypeElement;
import javax.tools.JavaCompiler;
import javax.tools.JavaFileObject;
import javax.tools.SimpleJavaFileObject;
import javax.tools.StandardJavaFileManager;
import javax.tools.ToolProvider;

/**
 * Parts of rules 1 to 6 and 8 to 11 of ../shared/LANGUAGE.md, by the compiler's tree of the source. Where the class needs
 * less than a rule allows, the test asks for the less: nothing is thrown or caught, nothing calls itself, every loop is a for.
 */
public final class LanguageTest {
    private static final Path PROGRAM = Path.of("src/main/java/SecondSilence.java");
    // Of rule 4, as much as the class uses; one more that the rule lists may be added here.
    private static final Set<String> LIBRARY = Set.of("Math.min", "Math.max", "Integer.bitCount", "String.indexOf");

    public static void main(String[] args) throws IOException {
        Due due = new Due();
        Source program = Source.of(PROGRAM);
        for (String fault : program.faults) {
            due.holds(fault, false);
        }
        due.is("classes of the file that are not inside another", program.unit.getTypeDecls().size(), 1);
        due.holds("there is no package line", program.unit.getPackage() == null);
        due.holds("rule 11: 12 classes at most, there are " + program.classes, program.classes <= 12);
        int deepest = program.deepest();
        due.holds("rule 11: calls go 8 deep at most, they go " + deepest, deepest >= 2 && deepest <= 8);
        seesFaults(due);
        due.close("LanguageTest");
    }

    /** A test that lets everything through would say nothing of the class. */
    private static void seesFaults(Due due) throws IOException {
        seesFault(due, 6, "int x() { try { return 1; } catch (RuntimeException e) { return 2; } }");
        seesFault(due, 6, "int x() { throw new IllegalStateException(); }");
        seesFault(due, 6, "void x() { assert true; }");
        seesFault(due, 6, "void x() { synchronized (this) { } }");
        seesFault(due, 2, "Runnable x() { return () -> { }; }");
        seesFault(due, 2, "Runnable x() { return this::x; }");
        seesFault(due, 9, "void x(int i) { while (i != 0) { i = 0; } }");
        seesFault(due, 9, "void x(int i) { do { i = 0; } while (i != 0); }");
        seesFault(due, 9, "void x() { for (;;) { } }");
        seesFault(due, 9, "void x() { for (int i = 0; i < 9;) { i = 9; } }");
        seesFault(due, 5, "static int x = 1;");
        seesFault(due, 5, "static final double[] X = {1};");
        seesFault(due, 5, "static { }");
        seesFault(due, 10, "String x(int i) { return \"a\" + i; }");
        seesFault(due, 10, "void x() { String s = \"a\"; s += 'b'; }");
        seesFault(due, 4, "@Deprecated void x() { }");
        seesFault(due, 4, "int x() { return Math.addExact(1, 2); }");
        seesFault(due, 4, "long x() { return System.nanoTime(); }");
        seesFault(due, 4, "void x() { new Object().hashCode(); }");
        seesFault(due, 3, "java.util.Random x;");
        seesFault(due, 3, "int[][][] x;");
        seesFault(due, 1, "public int y() { return 0; } private int y(int a) { return a; }");
        seesFault(due, 1, "class Inside { }");
        seesFault(due, 11, "void x(int a, int b, int c, int d, int e, int f, int g, int h) { }");
        seesFault(due, 11, "void x() { " + "\n".repeat(60) + " }");
        seesFault(due, 11, "int a, b, c, d, e, f, g, h, i, j, k, l, m, n, o, p, q, r, s, t, u;");
        due.is("faults of a plain class", Source.of("public final class Plain { int x() { return Math.min(1, 2); } }")
                .faults.size(), 0);
        String chain = "int a() { return b(); } int b() { return c(); } int c() { return Math.max(1, 2); }";
        due.is("depth of a chain", Source.of("public final class Chain { " + chain + " }").deepest(), 4);
        String kinds = "static class K { int a() { return 1; } } static class L extends K { int a() { return b(); } "
                + "int b() { return 2; } } int x(K k) { return k.a(); }";
        due.is("depth through a kind", Source.of("public final class Kinds { " + kinds + " }").deepest(), 3);
        String circle = "void x() { y(); } void y() { x(); }";
        due.holds("a circle has no end", Source.of("public final class Circle { " + circle + " }").deepest() > 8);
    }

    private static void seesFault(Due due, int rule, String member) throws IOException {
        List<String> faults = Source.of("public final class Faulty { " + member + " }").faults;
        due.holds("rule " + rule + " is seen broken in: " + member.replace("\n", ""),
                faults.stream().anyMatch(fault -> fault.startsWith("rule " + rule + ":")));
    }

    private LanguageTest() {
    }

    /** One source, walked through once. */
    private static final class Source extends TreePathScanner<Void, Void> {
        final List<String> faults = new ArrayList<>();
        int classes;
        private final Map<ExecutableElement, Set<ExecutableElement>> calls = new LinkedHashMap<>();
        private final Set<String> publicNames = new HashSet<>();
        private final Set<String> privateNames = new HashSet<>();
        private final JavacTask task;
        private final Trees trees;
        private final CompilationUnitTree unit;
        private ExecutableElement inside;

        static Source of(Path path) throws IOException {
            JavaCompiler compiler = ToolProvider.getSystemJavaCompiler();
            try (StandardJavaFileManager files = compiler.getStandardFileManager(null, null, null)) {
                return of(compiler, files.getJavaFileObjects(path).iterator().next());
            }
        }

        static Source of(String text) throws IOException {
            String name = text.split(" ")[3];
            return of(ToolProvider.getSystemJavaCompiler(),
                    new SimpleJavaFileObject(URI.create("string:///" + name + ".java"),
                            JavaFileObject.Kind.SOURCE) {
                        @Override
                        public CharSequence getCharContent(boolean ignoreEncodingErrors) {
                            return text;
                        }
                    });
        }

        private static Source of(JavaCompiler compiler, JavaFileObject file) throws IOException {
            List<String> options = List.of("-proc:none", "-Xlint:none");
            Source source = new Source((JavacTask) compiler.getTask(null, null, null, options, null, List.of(file)));
            source.scan(source.unit, null);
            source.privateNames.retainAll(source.publicNames);
            source.mustNot(1, "private methods that bear a public one's name: " + source.privateNames,
                    !source.privateNames.isEmpty());
            return source;
        }

        private Source(JavacTask task) throws IOException {
            this.task = task;
            this.trees = Trees.instance(task);
            this.unit = task.parse().iterator().next();
            task.analyze();
        }

        private void mustNot(int rule, String what, boolean is) {
            if (is) {
                faults.add("rule " + rule + ": " + what);
            }
        }

        private Void never(int rule, Tree tree) {
            faults.add("rule " + rule + ": none such: " + tree);
            return null;
        }

        // ---- what no line may hold

        @Override
        public Void visitImport(ImportTree tree, Void v) {
            return never(4, tree);
        }

        @Override
        public Void visitLambdaExpression(LambdaExpressionTree tree, Void v) {
            return never(2, tree);
        }

        @Override
        public Void visitMemberReference(MemberReferenceTree tree, Void v) {
            return never(2, tree);
        }

        @Override
        public Void visitAnnotation(AnnotationTree tree, Void v) {
            return never(4, tree);
        }

        @Override
        public Void visitTry(TryTree tree, Void v) {
            return never(6, tree);
        }

        @Override
        public Void visitThrow(ThrowTree tree, Void v) {
            return never(6, tree);
        }

        @Override
        public Void visitAssert(AssertTree tree, Void v) {
            return never(6, tree);
        }

        @Override
        public Void visitSynchronized(SynchronizedTree tree, Void v) {
            return never(6, tree);
        }

        @Override
        public Void visitWhileLoop(WhileLoopTree tree, Void v) {
            return never(9, tree);
        }

        @Override
        public Void visitDoWhileLoop(DoWhileLoopTree tree, Void v) {
            return never(9, tree);
        }

        @Override
        public Void visitForLoop(ForLoopTree tree, Void v) {
            mustNot(9, "a loop without a bound: " + tree, tree.getCondition() == null || tree.getUpdate().isEmpty());
            return super.visitForLoop(tree, v);
        }

        @Override
        public Void visitBinary(BinaryTree tree, Void v) {
            mustNot(10, "texts are not joined by +: " + tree, tree.getKind() == Tree.Kind.PLUS && isText());
            return super.visitBinary(tree, v);
        }

        @Override
        public Void visitCompoundAssignment(CompoundAssignmentTree tree, Void v) {
            mustNot(10, "texts are not joined by +: " + tree, isText());
            return super.visitCompoundAssignment(tree, v);
        }

        private boolean isText() {
            return "java.lang.String".equals(String.valueOf(trees.getTypeMirror(getCurrentPath())));
        }

        // ---- classes and fields

        @Override
        public Void visitClass(ClassTree tree, Void v) {
            classes++;
            int fields = 0;
            for (Tree member : tree.getMembers()) {
                if (member instanceof BlockTree block) {
                    mustNot(5, "no static block: " + block, block.isStatic());
                } else if (member instanceof VariableTree field && !isStatic(field)) {
                    fields++;
                }
            }
            mustNot(11, tree.getSimpleName() + " has " + fields + " fields, 20 at most", fields > 20);
            boolean outermost = getCurrentPath().getParentPath().getLeaf() instanceof CompilationUnitTree;
            mustNot(1, tree.getSimpleName() + " is static",
                    !outermost && !tree.getModifiers().getFlags().contains(Modifier.STATIC));
            return super.visitClass(tree, v);
        }

        @Override
        public Void visitVariable(VariableTree tree, Void v) {
            String type = String.valueOf(trees.getTypeMirror(getCurrentPath()));
            mustNot(3, "a type of the library: " + tree, type.contains(".") && !isOwnOrText(type));
            mustNot(3, "an array of more than two dimensions: " + tree, type.contains("[][][]"));
            if (isStatic(tree)) {
                mustNot(5, "a static field is final: " + tree,
                        !tree.getModifiers().getFlags().contains(Modifier.FINAL));
                mustNot(5, "a static field's type: " + tree,
                        !type.matches("int|long|boolean|char|java\\.lang\\.String|(int|long|char|byte)\\[\\]"));
            }
            return super.visitVariable(tree, v);
        }

        private static boolean isStatic(VariableTree tree) {
            return tree.getModifiers().getFlags().contains(Modifier.STATIC);
        }

        private boolean isOwnOrText(String type) {
            return type.startsWith("SecondSilence.") || type.equals("java.lang.String");
        }

        // ---- methods and what they call

        @Override
        public Void visitMethod(MethodTree tree, Void v) {
            Set<Modifier> flags = tree.getModifiers().getFlags();
            if (flags.contains(Modifier.PUBLIC)) {
                publicNames.add(tree.getName().toString());
            } else {
                privateNames.add(tree.getName().toString());
            }
            privateNames.remove("<init>");
            mustNot(11, tree.getName() + " takes 7 parameters at most", tree.getParameters().size() > 7);
            int lines = lines(tree);
            mustNot(11, tree.getName() + " has " + lines + " lines, 60 at most", lines > 60);
            inside = (ExecutableElement) trees.getElement(getCurrentPath());
            calls.putIfAbsent(inside, new LinkedHashSet<>());
            super.visitMethod(tree, v);
            inside = null;
            return null;
        }

        private int lines(MethodTree tree) {
            SourcePositions places = trees.getSourcePositions();
            long from = places.getStartPosition(unit, tree);
            long to = places.getEndPosition(unit, tree);
            // What the compiler adds by itself has no place of its own.
            return from < 0 || to < 0 ? 0
                    : (int) (unit.getLineMap().getLineNumber(to) - unit.getLineMap().getLineNumber(from)) + 1;
        }

        @Override
        public Void visitMethodInvocation(MethodInvocationTree tree, Void v) {
            keepCall((ExecutableElement) trees.getElement(getCurrentPath()), tree);
            return super.visitMethodInvocation(tree, v);
        }

        @Override
        public Void visitNewClass(NewClassTree tree, Void v) {
            keepCall((ExecutableElement) trees.getElement(getCurrentPath()), tree);
            return super.visitNewClass(tree, v);
        }

        private void keepCall(ExecutableElement called, Tree tree) {
            TypeElement owner = (TypeElement) called.getEnclosingElement();
            String name = owner.getSimpleName() + "." + called.getSimpleName();
            boolean objectMade = name.equals("Object.<init>");
            mustNot(4, "not of the library: " + tree, !isOwn(owner) && !objectMade && !LIBRARY.contains(name));
            if (inside != null && !objectMade) {
                calls.get(inside).add(called);
            }
        }

        private boolean isOwn(TypeElement type) {
            Element outermost = type;
            while (outermost.getEnclosingElement().getKind() != ElementKind.PACKAGE) {
                outermost = outermost.getEnclosingElement();
            }
            return trees.getTree(outermost) != null;
        }

        // ---- how deep calls go

        int deepest() {
            int deepest = 0;
            for (ExecutableElement method : calls.keySet()) {
                deepest = Math.max(deepest, depth(method, new HashSet<>()));
            }
            return deepest;
        }

        private int depth(ExecutableElement method, Set<ExecutableElement> open) {
            if (!open.add(method)) {
                return 1000;
            }
            int below = 0;
            for (ExecutableElement called : calls.getOrDefault(method, Set.of())) {
                for (ExecutableElement meant : thatMayBeMeant(called)) {
                    below = Math.max(below, depth(meant, open));
                }
            }
            open.remove(method);
            return below + 1;
        }

        /** A call on a kind may go to each kind below it. */
        private Set<ExecutableElement> thatMayBeMeant(ExecutableElement called) {
            Set<ExecutableElement> meant = new LinkedHashSet<>();
            meant.add(called);
            for (ExecutableElement other : calls.keySet()) {
                TypeElement owner = (TypeElement) other.getEnclosingElement();
                if (task.getElements().overrides(other, called, owner)) {
                    meant.add(other);
                }
            }
            return meant;
        }
    }
}

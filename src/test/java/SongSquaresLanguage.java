import com.sun.source.tree.AnnotationTree;
import com.sun.source.tree.AssertTree;
import com.sun.source.tree.BinaryTree;
import com.sun.source.tree.BlockTree;
import com.sun.source.tree.ClassTree;
import com.sun.source.tree.CompilationUnitTree;
import com.sun.source.tree.DoWhileLoopTree;
import com.sun.source.tree.ForLoopTree;
import com.sun.source.tree.LambdaExpressionTree;
import com.sun.source.tree.LineMap;
import com.sun.source.tree.LiteralTree;
import com.sun.source.tree.MemberReferenceTree;
import com.sun.source.tree.MethodInvocationTree;
import com.sun.source.tree.MethodTree;
import com.sun.source.tree.NewArrayTree;
import com.sun.source.tree.NewClassTree;
import com.sun.source.tree.SynchronizedTree;
import com.sun.source.tree.ThrowTree;
import com.sun.source.tree.Tree;
import com.sun.source.tree.TryTree;
import com.sun.source.tree.TypeCastTree;
import com.sun.source.tree.VariableTree;
import com.sun.source.tree.WhileLoopTree;
import com.sun.source.util.JavacTask;
import com.sun.source.util.TreePath;
import com.sun.source.util.TreePathScanner;
import com.sun.source.util.Trees;
import java.io.IOException;
import java.io.StringWriter;
import java.net.URI;
import java.nio.file.Files;
import java.nio.file.Path;
import java.util.ArrayList;
import java.util.HashMap;
import java.util.HashSet;
import java.util.List;
import java.util.Map;
import java.util.Set;
import java.util.TreeSet;
import javax.lang.model.element.Element;
import javax.lang.model.element.ElementKind;
import javax.lang.model.element.ExecutableElement;
import javax.lang.model.element.Modifier;
import javax.lang.model.type.ArrayType;
import javax.lang.model.type.TypeKind;
import javax.lang.model.type.TypeMirror;
import javax.tools.JavaFileObject;
import javax.tools.SimpleJavaFileObject;
import javax.tools.ToolProvider;

/**
 * The rules of LANGUAGE.md that a source shows, by the compiler's own tree. It is stricter than they are:
 * no library but what the class uses now, no recursion, nothing made outside constructors.
 * Each rule is tried on a small class that breaks it, so that a check that sees nothing is seen itself.
 */
public final class SongSquaresLanguage {
    private static final int MOST_CLASSES = 12, MOST_FIELDS = 20, MOST_PARAMETERS = 7, MOST_LINES = 60, MOST_DEPTH = 8;
    private static final Set<String> LIBRARY = Set.of("java.lang.System.arraycopy", "java.lang.Math.min", "java.lang.Math.max",
        "java.lang.Integer.bitCount");

    private static int wrong = 0;

    public static void main(String[] args) throws IOException {
        String source = Files.readString(Path.of("src/main/java/SongSquares.java"));
        for (String fault : faults("SongSquares", source)) {
            wrong++;
            System.out.println("LANGUAGE.md " + fault);
        }
        samples();
        System.out.println(wrong == 0 ? "the rules of LANGUAGE.md hold" : wrong + " faults by LANGUAGE.md");
        if (wrong != 0) {
            System.exit(1);
        }
    }

    // ---- the checks themselves, tried on what breaks them

    private static void samples() throws IOException {
        sample(0, "public int f(int a) { return a > 0 ? Math.min(a, 3) : 0; }");
        sample(1, "public int f() { return 1; } private int f(int a) { return a; }");
        sample(1, "int f() { return 1; }");
        sample(1, "protected int a = 1;");
        sample(1, "public static class Inner { }");
        sample(2, "private class Inner { private int a = 1; }");
        sample(2, "public int f() { Runnable r = () -> { }; return 1; }");
        sample(2, "public int f() { class Local { } return 1; }");
        sample(2, "private Object o = new Object() { };");
        sample(2, "public int f() { Runnable r = Sample::new; return 1; }");
        sample(3, "private final int[][][] a = new int[1][1][1];");
        sample(3, "private final Long a = 1L;");
        sample(3, "public int f() { var a = new StringBuffer(); return 1; }");
        sample(4, "public int f(int a) { return Math.addExact(a, 1); }");
        sample(4, "public int f() { return (int) System.nanoTime(); }");
        sample(4, "private final String a = \"" + (char) 233 + "\";");
        sample(4, "// " + (char) 233 + "\n");
        sample(4, "@Deprecated public int f() { return 1; }");
        sample(5, "private static int a = 1;");
        sample(5, "static { int a = 1; }");
        sample(6, "public int f() { throw new IllegalStateException(); }");
        sample(6, "public int f(int a) { try { return 1; } finally { a++; } }");
        sample(6, "public int f(int a) { assert a > 0; return 1; }");
        sample(6, "public int f() { synchronized (this) { return 1; } }");
        sample(6, "public int f() throws Exception { return 1; }");
        sample(6, "@Override public String toString() { return null; }");
        sample(6, "private static class A { } private A a; public int f() { a = (A) a; return 1; }");
        sample(8, "public int f(int a) { return g(a); } private int g(int a) { return a > 0 ? f(a - 1) : 0; }");
        sample(9, "public int f(int a) { for (;;) { if (a++ > 5) { return 1; } } }");
        sample(9, "public int f(int a) { while (true) { if (a++ > 5) { return 1; } } }");
        sample(9, "public int f(int a) { do { if (a++ > 5) { return 1; } } while (true); }");
        sample(10, "public int f(int a) { String b = \"a\" + a; return b.length(); }");
        sample(11, "public int f(int a, int b, int c, int d, int e, int g, int h, int i) { return a; }");
        sample(11, "public int f() {" + "\n".repeat(60) + "return 1; }");
        sample(11, chain(9));
        sample(0, chain(8));
        sample(11, "private static class A { } ".repeat(12).replaceAll("class A", "class A#"));
        sample(11, "private int a#; ".repeat(21));
        sample(13, "private volatile int a = 1;");
        sample(13, "public native int f();");
        sample(12, "public int f() { int[] a = new int[1]; return a.length; }");
        sample(12, "private static class A { } public int f() { return new A() == null ? 1 : 0; }");
        whole(0, "public final class Sample { }");
        whole(1, "package song; public final class Sample { }");
        whole(1, "public class Sample { }");
        whole(1, "public final class Sample { } final class Other { }");
        whole(4, "import java.util.List; public final class Sample { }");
    }

    /** Methods that call one another, so many deep. */
    private static String chain(int depth) {
        StringBuilder b = new StringBuilder("private int m1() { return 1; }");
        for (int i = 2; i <= depth; i++) {
            b.append("private int m").append(i).append("() { return m").append(i - 1).append("(); }");
        }
        return b.toString();
    }

    /** A class with a body that breaks one rule (0: none): each # in it becomes a number of its own. */
    private static void sample(int rule, String body) throws IOException {
        StringBuilder numbered = new StringBuilder();
        for (int i = 0; i < body.length(); i++) {
            numbered.append(body.charAt(i) == '#' ? String.valueOf(i) : String.valueOf(body.charAt(i)));
        }
        whole(rule, "public final class Sample { " + numbered + " }");
    }

    private static void whole(int rule, String source) throws IOException {
        List<String> found = faults("Sample", source);
        boolean seen = rule == 0 ? found.isEmpty() : found.stream().anyMatch(fault -> fault.startsWith("rule " + rule + ":"));
        if (!seen) {
            wrong++;
            System.out.println("the check of rule " + rule + " does not see " + source + ", but " + found);
        }
    }

    private static List<String> faults(String name, String source) throws IOException {
        JavaFileObject file = new SimpleJavaFileObject(URI.create("string:///" + name + ".java"), JavaFileObject.Kind.SOURCE) {
            @Override
            public CharSequence getCharContent(boolean ignoreEncodingErrors) {
                return source;
            }
        };
        JavacTask task = (JavacTask) ToolProvider.getSystemJavaCompiler().getTask(new StringWriter(), null, null,
            List.of("--release", "17", "-proc:none"), null, List.of(file));
        CompilationUnitTree unit = task.parse().iterator().next();
        task.analyze();
        Reading reading = new Reading(unit, Trees.instance(task));
        reading.scan(new TreePath(unit), null);
        reading.end(source);
        return reading.faults;
    }

    private static final class Reading extends TreePathScanner<Void, Void> {
        final List<String> faults = new ArrayList<>();
        private final CompilationUnitTree unit;
        private final Trees trees;
        private final LineMap lines;
        private final Map<Element, Set<Element>> calls = new HashMap<>();
        private final Set<String> open = new HashSet<>();
        private final Set<String> hidden = new TreeSet<>();
        private Element method = null;
        private int classes = 0;

        Reading(CompilationUnitTree unit, Trees trees) {
            this.unit = unit;
            this.trees = trees;
            this.lines = unit.getLineMap();
        }

        private void check(boolean holds, int rule, Tree where, String what) {
            if (!holds) {
                long line = where == null ? 0 : lines.getLineNumber(trees.getSourcePositions().getStartPosition(unit, where));
                faults.add("rule " + rule + ": " + what + " (line " + line + ")");
            }
        }

        /** What can only be said when all is read. */
        void end(String source) {
            check(source.chars().allMatch(sign -> sign <= 127), 4, null, "a sign beyond 127");
            check(unit.getPackageName() == null, 1, null, "a package line");
            check(unit.getImports().isEmpty(), 4, null, "an import");
            check(unit.getTypeDecls().size() == 1, 1, null, "more than one class outside");
            check(classes <= MOST_CLASSES, 11, null, classes + " classes");
            for (String name : hidden) {
                check(!open.contains(name), 1, null, "a private method is named " + name + " as a public one");
            }
            for (Element each : calls.keySet()) {
                int depth = depth(each, new HashSet<>());
                check(depth > 0, 8, null, each + " comes back to itself");
                check(depth <= MOST_DEPTH, 11, null, each + " calls " + depth + " deep");
            }
        }

        /** How many calls stand open at most; far below 0 where one comes back to itself. */
        private int depth(Element from, Set<Element> above) {
            if (!above.add(from)) {
                return Integer.MIN_VALUE / 2;
            }
            int most = 0;
            for (Element to : calls.getOrDefault(from, Set.of())) {
                int behind = depth(to, above);
                most = most < 0 || behind < 0 ? Math.min(most, behind) : Math.max(most, behind);
            }
            above.remove(from);
            return most + 1;
        }

        private Element here() {
            return trees.getElement(getCurrentPath());
        }

        private boolean own(Element element) {
            return element != null && trees.getPath(element) != null;
        }

        @Override
        public Void visitClass(ClassTree tree, Void none) {
            classes++;
            Element type = here();
            Tree parent = getCurrentPath().getParentPath().getLeaf();
            Set<Modifier> modifiers = tree.getModifiers().getFlags();
            if (parent == unit) {
                check(modifiers.equals(Set.of(Modifier.PUBLIC, Modifier.FINAL)), 1, tree, "not public and final");
            } else {
                check(parent instanceof ClassTree && !tree.getSimpleName().isEmpty(), 2, tree, "a local or anonymous class");
                check(modifiers.contains(Modifier.STATIC), 2, tree, "a class inside that is not static");
                check(!modifiers.contains(Modifier.PUBLIC) && !modifiers.contains(Modifier.PROTECTED), 1, tree, "a class inside is open");
            }
            long fields = type == null ? 0 : type.getEnclosedElements().stream()
                .filter(e -> e.getKind() == ElementKind.FIELD && !e.getModifiers().contains(Modifier.STATIC)).count();
            check(fields <= MOST_FIELDS, 11, tree, fields + " fields");
            for (Tree member : tree.getMembers()) {
                check(!(member instanceof BlockTree), 5, member, "an initialiser block");
            }
            return super.visitClass(tree, none);
        }

        @Override
        public Void visitMethod(MethodTree tree, Void none) {
            Element outer = method;
            method = here();
            calls.putIfAbsent(method, new HashSet<>());
            Set<Modifier> modifiers = tree.getModifiers().getFlags();
            String name = tree.getName().toString();
            boolean outside = method.getEnclosingElement().getEnclosingElement().getKind() == ElementKind.PACKAGE;
            // The compiler's own constructor stands in no line.
            boolean written = trees.getSourcePositions().getEndPosition(unit, tree) > 0;
            if (modifiers.contains(Modifier.PUBLIC) && method.getKind() == ElementKind.METHOD) {
                open.add(name);
            } else if (method.getKind() == ElementKind.METHOD) {
                hidden.add(name);
                check(!outside || modifiers.contains(Modifier.PRIVATE), 1, tree, name + " can be seen from outside");
            }
            check(!Set.of("equals", "hashCode", "toString").contains(name), 6, tree, name);
            check(tree.getThrows().isEmpty(), 6, tree, name + " throws");
            check(!modifiers.contains(Modifier.NATIVE), 13, tree, name + " is native");
            check(tree.getParameters().size() <= MOST_PARAMETERS, 11, tree, name + " has too many parameters");
            if (written) {
                long first = lines.getLineNumber(trees.getSourcePositions().getStartPosition(unit, tree));
                long last = lines.getLineNumber(trees.getSourcePositions().getEndPosition(unit, tree));
                check(last - first < MOST_LINES, 11, tree, name + " is long");
            }
            checkType(((ExecutableElement) method).getReturnType(), tree);
            super.visitMethod(tree, none);
            method = outer;
            return null;
        }

        @Override
        public Void visitVariable(VariableTree tree, Void none) {
            Element variable = here();
            checkType(variable.asType(), tree);
            Set<Modifier> modifiers = variable.getModifiers();
            if (variable.getKind() == ElementKind.FIELD) {
                boolean outside = variable.getEnclosingElement().getEnclosingElement().getKind() == ElementKind.PACKAGE;
                boolean constant = modifiers.contains(Modifier.PUBLIC) && modifiers.contains(Modifier.STATIC);
                check(!outside || constant || modifiers.contains(Modifier.PRIVATE), 1, tree, variable + " can be seen from outside");
                check(!modifiers.contains(Modifier.VOLATILE), 13, tree, variable + " is volatile");
                check(!modifiers.contains(Modifier.STATIC) || modifiers.contains(Modifier.FINAL), 5, tree, variable + " is not final");
            }
            return super.visitVariable(tree, none);
        }

        private void checkType(TypeMirror type, Tree where) {
            int dimensions = 0;
            TypeMirror inmost = type;
            while (inmost.getKind() == TypeKind.ARRAY) {
                inmost = ((ArrayType) inmost).getComponentType();
                dimensions++;
            }
            boolean number = inmost.getKind().isPrimitive() || inmost.getKind() == TypeKind.VOID;
            check(dimensions <= (number ? 2 : 1), 3, where, "an array of too many dimensions");
            boolean known = inmost.toString().equals("java.lang.String") || inmost.toString().equals("java.lang.StringBuilder");
            check(number || known || own(trees.getElement(getCurrentPath())) && inmost.toString().startsWith(outermost() + "."),
                3, where, "the type " + inmost);
        }

        private String outermost() {
            return ((ClassTree) unit.getTypeDecls().get(0)).getSimpleName().toString();
        }

        private void callTo(Element called, Tree tree) {
            if (method != null && own(called)) {
                calls.get(method).add(called);
            }
            if (!own(called) && called != null && called.getKind() == ElementKind.METHOD) {
                String name = called.getEnclosingElement() + "." + called.getSimpleName();
                check(LIBRARY.contains(name), 4, tree, name);
            }
        }

        @Override
        public Void visitMethodInvocation(MethodInvocationTree tree, Void none) {
            callTo(here(), tree);
            return super.visitMethodInvocation(tree, none);
        }

        @Override
        public Void visitNewClass(NewClassTree tree, Void none) {
            callTo(here(), tree);
            check(madeInConstructor(), 12, tree, "an object is made outside a constructor");
            return super.visitNewClass(tree, none);
        }

        @Override
        public Void visitNewArray(NewArrayTree tree, Void none) {
            check(madeInConstructor(), 12, tree, "an array is made outside a constructor");
            return super.visitNewArray(tree, none);
        }

        private boolean madeInConstructor() {
            return method == null || method.getKind() == ElementKind.CONSTRUCTOR;
        }

        @Override
        public Void visitBinary(BinaryTree tree, Void none) {
            TypeMirror type = trees.getTypeMirror(getCurrentPath());
            check(type.getKind().isPrimitive(), 10, tree, "texts are joined by +");
            return super.visitBinary(tree, none);
        }

        @Override
        public Void visitForLoop(ForLoopTree tree, Void none) {
            check(tree.getCondition() != null && !(tree.getCondition() instanceof LiteralTree), 9, tree, "no end to be seen");
            return super.visitForLoop(tree, none);
        }

        @Override
        public Void visitWhileLoop(WhileLoopTree tree, Void none) {
            check(!tree.getCondition().toString().equals("(true)"), 9, tree, "no end to be seen");
            return super.visitWhileLoop(tree, none);
        }

        @Override
        public Void visitDoWhileLoop(DoWhileLoopTree tree, Void none) {
            check(!tree.getCondition().toString().equals("(true)"), 9, tree, "no end to be seen");
            return super.visitDoWhileLoop(tree, none);
        }

        @Override
        public Void visitTypeCast(TypeCastTree tree, Void none) {
            check(trees.getTypeMirror(getCurrentPath()).getKind().isPrimitive(), 6, tree, "a cast among objects");
            return super.visitTypeCast(tree, none);
        }

        @Override
        public Void visitLambdaExpression(LambdaExpressionTree tree, Void none) {
            check(false, 2, tree, "a lambda");
            return null;
        }

        @Override
        public Void visitMemberReference(MemberReferenceTree tree, Void none) {
            check(false, 2, tree, "a method reference");
            return null;
        }

        @Override
        public Void visitThrow(ThrowTree tree, Void none) {
            check(false, 6, tree, "throw");
            return super.visitThrow(tree, none);
        }

        @Override
        public Void visitTry(TryTree tree, Void none) {
            check(false, 6, tree, "try");
            return super.visitTry(tree, none);
        }

        @Override
        public Void visitAssert(AssertTree tree, Void none) {
            check(false, 6, tree, "assert");
            return super.visitAssert(tree, none);
        }

        @Override
        public Void visitSynchronized(SynchronizedTree tree, Void none) {
            check(false, 6, tree, "synchronized");
            return super.visitSynchronized(tree, none);
        }

        @Override
        public Void visitAnnotation(AnnotationTree tree, Void none) {
            check(false, 4, tree, "an annotation");
            return null;
        }
    }
}

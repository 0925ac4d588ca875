import com.sun.source.tree.BinaryTree;
import com.sun.source.tree.ClassTree;
import com.sun.source.tree.CompilationUnitTree;
import com.sun.source.tree.CompoundAssignmentTree;
import com.sun.source.tree.LambdaExpressionTree;
import com.sun.source.tree.MemberReferenceTree;
import com.sun.source.tree.MethodInvocationTree;
import com.sun.source.tree.MethodTree;
import com.sun.source.tree.NewClassTree;
import com.sun.source.tree.TryTree;
import com.sun.source.tree.Tree;
import com.sun.source.util.JavacTask;
import com.sun.source.util.SourcePositions;
import com.sun.source.util.TreePathScanner;
import com.sun.source.util.Trees;
import java.io.IOException;
import java.nio.file.Path;
import java.util.List;
import java.util.Map;
import java.util.Set;
import java.util.TreeMap;
import java.util.TreeSet;
import javax.lang.model.element.Element;
import javax.lang.model.element.ExecutableElement;
import javax.lang.model.element.Modifier;
import javax.lang.model.type.TypeMirror;
import javax.tools.JavaCompiler;
import javax.tools.StandardJavaFileManager;
import javax.tools.ToolProvider;

/** Rules 3, 4, 6, 8, 11 and 12 of the language, asked of the source as the compiler understands it. */
public final class LanguageTest {
    private static final int DEPTH_MOST = 8;
    private static final int LINES_MOST = 60;
    private static final int PARAMETERS_MOST = 7;
    private static final Set<String> LIBRARY = Set.of("String.length", "String.charAt", "Math.min", "Math.max",
            "Integer.bitCount", "Integer.numberOfTrailingZeros", "System.arraycopy", "Arrays.fill", "Object.<init>");
    private static final Set<String> THROWN = Set.of("IndexOutOfBoundsException", "NoSuchElementException");

    /** Of each method of the program, by "Class.method", the methods of the program that it calls. */
    private final Map<String, Set<String>> calls = new TreeMap<>();
    private final Set<String> open = new TreeSet<>();
    private final Set<String> closed = new TreeSet<>();
    private final Set<String> entries = new TreeSet<>();
    private Trees trees;
    private CompilationUnitTree unit;

    public static void main(String[] args) throws IOException {
        LanguageTest test = new LanguageTest();
        test.read(Path.of("src/main/java/HalfCitizen.java"));
        test.depths();
        test.recursion();
        Check.end();
    }

    private void read(Path source) throws IOException {
        JavaCompiler compiler = ToolProvider.getSystemJavaCompiler();
        try (StandardJavaFileManager files = compiler.getStandardFileManager(null, null, null)) {
            JavacTask task = (JavacTask) compiler.getTask(null, files, null, List.of("-proc:none"), null,
                    files.getJavaFileObjects(source));
            trees = Trees.instance(task);
            unit = task.parse().iterator().next();
            task.analyze();
            new Finder().scan(unit, null);
        }
        Check.due("the entries of the face", entries.size(), 36);
    }

    private static String nameOf(Element method) {
        return method.getEnclosingElement().getSimpleName() + "." + method.getSimpleName();
    }

    private boolean isOwn(Element e) {
        return e.toString().startsWith("HalfCitizen") || e.getEnclosingElement() != null && isOwn(e.getEnclosingElement());
    }

    /** Walks through the source and notes who calls whom. */
    private final class Finder extends TreePathScanner<Void, Void> {
        private String caller = "";

        @Override
        public Void visitMethod(MethodTree tree, Void nothing) {
            Element method = trees.getElement(getCurrentPath());
            String outer = caller;
            caller = nameOf(method);
            calls.computeIfAbsent(caller, k -> new TreeSet<>());
            (method.getModifiers().contains(Modifier.PRIVATE) ? closed : open).add(caller);
            if (method.getModifiers().contains(Modifier.PUBLIC)) {
                entries.add(caller);
            }
            Check.due("parameters of " + caller, tree.getParameters().size() <= PARAMETERS_MOST, true);
            SourcePositions positions = trees.getSourcePositions();
            long from = unit.getLineMap().getLineNumber(Math.max(0, positions.getStartPosition(unit, tree)));
            long to = unit.getLineMap().getLineNumber(Math.max(0, positions.getEndPosition(unit, tree)));
            Check.due("lines of " + caller, to - from < LINES_MOST, true);
            super.visitMethod(tree, nothing);
            caller = outer;
            return null;
        }

        @Override
        public Void visitClass(ClassTree tree, Void nothing) {
            String outer = caller;
            caller = tree.getSimpleName() + ".<init>";
            calls.computeIfAbsent(caller, k -> new TreeSet<>());
            super.visitClass(tree, nothing);
            caller = outer;
            return null;
        }

        @Override
        public Void visitMethodInvocation(MethodInvocationTree tree, Void nothing) {
            note((ExecutableElement) trees.getElement(getCurrentPath()));
            return super.visitMethodInvocation(tree, nothing);
        }

        @Override
        public Void visitNewClass(NewClassTree tree, Void nothing) {
            Element made = trees.getElement(getCurrentPath());
            if (isOwn(made)) {
                Check.due(caller + " makes an object", caller.endsWith(".<init>"), true);
                note((ExecutableElement) made);
            } else {
                String type = made.getEnclosingElement().getSimpleName().toString();
                Check.due(caller + " makes " + type, caller.equals("HalfCitizen.look") && THROWN.contains(type), true);
            }
            return super.visitNewClass(tree, nothing);
        }

        private void note(ExecutableElement method) {
            String name = nameOf(method);
            if (isOwn(method)) {
                calls.get(caller).add(name);
            } else {
                Check.due(caller + " calls " + name + " of the library", LIBRARY.contains(name), true);
            }
        }

        @Override
        public Void visitBinary(BinaryTree tree, Void nothing) {
            refuseText(tree, tree.getKind() == Tree.Kind.PLUS);
            return super.visitBinary(tree, nothing);
        }

        @Override
        public Void visitCompoundAssignment(CompoundAssignmentTree tree, Void nothing) {
            refuseText(tree, tree.getKind() == Tree.Kind.PLUS_ASSIGNMENT);
            return super.visitCompoundAssignment(tree, nothing);
        }

        private void refuseText(Tree tree, boolean plus) {
            TypeMirror type = trees.getTypeMirror(getCurrentPath());
            Check.due("texts joined by + in " + tree, plus && type.toString().equals("java.lang.String"), false);
        }

        @Override
        public Void visitTry(TryTree tree, Void nothing) {
            Check.due("a try in " + caller, true, false);
            return super.visitTry(tree, nothing);
        }

        @Override
        public Void visitLambdaExpression(LambdaExpressionTree tree, Void nothing) {
            Check.due("a lambda in " + caller, true, false);
            return super.visitLambdaExpression(tree, nothing);
        }

        @Override
        public Void visitMemberReference(MemberReferenceTree tree, Void nothing) {
            Check.due("a method reference in " + caller, true, false);
            return super.visitMemberReference(tree, nothing);
        }
    }

    /** Rule 11: calls that are no recursion go at most eight deep. */
    private void depths() {
        for (String entry : entries) {
            int depth = depth(entry, new TreeSet<>());
            Check.due("calls of " + entry + " go " + depth + " deep", depth <= DEPTH_MOST, true);
        }
        // A finder that found no calls would tell of no depth either.
        Check.due("chance goes deep", depth("HalfCitizen.chance", new TreeSet<>()) > 4, true);
        Check.due("undo goes two deep", depth("HalfCitizen.undo", new TreeSet<>()), 2);
    }

    private int depth(String method, Set<String> above) {
        if (!above.add(method)) {
            return 0;
        }
        int most = 0;
        for (String called : calls.get(method)) {
            most = Math.max(most, depth(called, above));
        }
        above.remove(method);
        return most + (reaches(method, method, new TreeSet<>()) ? 0 : 1);
    }

    private boolean reaches(String from, String to, Set<String> seen) {
        for (String called : calls.get(from)) {
            if (called.equals(to) || seen.add(called) && reaches(called, to, seen)) {
                return true;
            }
        }
        return false;
    }

    /** Rule 8: recursion is one of private methods; here it is that of sentences alone. */
    private void recursion() {
        int found = 0;
        for (String method : calls.keySet()) {
            if (reaches(method, method, new TreeSet<>())) {
                found++;
                Check.due(method + " is a recursion of private methods", closed.contains(method) && !open.contains(method), true);
                Check.due(method + " is one of Sentences", method.startsWith("Sentences.read"), true);
            }
        }
        Check.due("methods of the recursion", found, 8);
    }
}

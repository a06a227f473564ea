import com.sun.source.tree.AssertTree;
import com.sun.source.tree.BinaryTree;
import com.sun.source.tree.ClassTree;
import com.sun.source.tree.CompilationUnitTree;
import com.sun.source.tree.ImportTree;
import com.sun.source.tree.LambdaExpressionTree;
import com.sun.source.tree.LiteralTree;
import com.sun.source.tree.MemberReferenceTree;
import com.sun.source.tree.MethodInvocationTree;
import com.sun.source.tree.MethodTree;
import com.sun.source.tree.NewClassTree;
import com.sun.source.tree.SynchronizedTree;
import com.sun.source.tree.ThrowTree;
import com.sun.source.tree.Tree;
import com.sun.source.tree.TryTree;
import com.sun.source.tree.VariableTree;
import com.sun.source.util.JavacTask;
import com.sun.source.util.TreePathScanner;
import com.sun.source.util.Trees;
import java.io.IOException;
import java.nio.file.Path;
import java.util.HashMap;
import java.util.HashSet;
import java.util.LinkedHashSet;
import java.util.List;
import java.util.Map;
import java.util.Set;
import javax.lang.model.element.Element;
import javax.lang.model.element.ElementKind;
import javax.lang.model.element.Modifier;
import javax.lang.model.element.TypeElement;
import javax.lang.model.type.TypeKind;
import javax.tools.JavaCompiler;
import javax.tools.StandardJavaFileManager;
import javax.tools.ToolProvider;

/** What of ../shared/LANGUAGE.md can be seen in the source of the class; it is run from the project's root. */
public final class LanguageTest {
    private static final Path SOURCE = Path.of("src", "main", "java", "SaggarKiln.java");
    private static final int MOST_LINES = 60;
    private static final int MOST_PARAMETERS = 7;
    private static final int MOST_CLASSES = 12;
    private static final int MOST_FIELDS = 20;
    private static final int MOST_CALLS_DEEP = 8;
    private static final Set<String> LIBRARY = Set.of("java.lang.System.arraycopy", "java.lang.Math.min",
            "java.lang.Math.max", "java.lang.Object.<init>");
    private static final Set<String> EXCEPTIONS = Set.of("IllegalStateException", "IllegalArgumentException",
            "IndexOutOfBoundsException", "ArithmeticException", "UnsupportedOperationException",
            "NoSuchElementException", "RuntimeException");

    private static int wrong;
    private static final Map<Element, Set<Element>> CALLS = new HashMap<>();
    private static final Set<String> FACE = new HashSet<>();

    public static void main(String[] args) throws IOException {
        JavaCompiler compiler = ToolProvider.getSystemJavaCompiler();
        try (StandardJavaFileManager files = compiler.getStandardFileManager(null, null, null)) {
            JavacTask task = (JavacTask) compiler.getTask(null, files, null, List.of("-proc:none"), null,
                    files.getJavaFileObjects(SOURCE));
            CompilationUnitTree unit = task.parse().iterator().next();
            task.analyze();
            Rules rules = new Rules(Trees.instance(task), unit);
            rules.findFace();
            rules.scan(unit, null);
            rules.checkWhole();
        }
        int deepest = 0;
        for (Element method : CALLS.keySet()) {
            deepest = Math.max(deepest, depth(method, new HashSet<>()));
        }
        check(deepest <= MOST_CALLS_DEEP, "calls go " + deepest + " deep");
        System.out.println("language: calls go " + deepest + " deep, " + wrong + " wrong");
        if (wrong != 0) {
            System.exit(1);
        }
    }

    private static void check(boolean isFine, String otherwise) {
        if (!isFine) {
            wrong++;
            System.out.println(otherwise);
        }
    }

    /** How many methods of the file stand open at once at most, from this one on. */
    private static int depth(Element method, Set<Element> open) {
        if (!open.add(method)) {
            check(false, "recursion: " + method);
            return 0;
        }
        int deepest = 0;
        for (Element called : CALLS.getOrDefault(method, Set.of())) {
            deepest = Math.max(deepest, depth(called, open));
        }
        open.remove(method);
        return deepest + 1;
    }

    private static final class Rules extends TreePathScanner<Void, Void> {
        private final Trees trees;
        private final CompilationUnitTree unit;
        private int classes;
        private Element method;

        Rules(Trees trees, CompilationUnitTree unit) {
            this.trees = trees;
            this.unit = unit;
        }

        void findFace() {
            ClassTree whole = (ClassTree) unit.getTypeDecls().get(0);
            for (Tree member : whole.getMembers()) {
                if (member instanceof MethodTree m && m.getReturnType() != null
                        && m.getModifiers().getFlags().contains(Modifier.PUBLIC)) {
                    FACE.add(m.getName().toString());
                }
            }
        }

        void checkWhole() {
            check(unit.getPackage() == null, "there is a package line");
            check(unit.getTypeDecls().size() == 1, "there is not one class alone");
            check(classes <= MOST_CLASSES, "there are " + classes + " classes");
        }

        private long line(Tree tree, boolean isEnd) {
            long position = isEnd ? trees.getSourcePositions().getEndPosition(unit, tree)
                    : trees.getSourcePositions().getStartPosition(unit, tree);
            return unit.getLineMap().getLineNumber(position);
        }

        private void forbid(Tree tree, String what) {
            check(false, "line " + line(tree, false) + ": " + what);
        }

        @Override
        public Void visitImport(ImportTree tree, Void nothing) {
            check(tree.getQualifiedIdentifier().toString().equals("java.util.NoSuchElementException"), "import: " + tree);
            return super.visitImport(tree, nothing);
        }

        @Override
        public Void visitClass(ClassTree tree, Void nothing) {
            classes++;
            int fields = 0;
            for (Tree member : tree.getMembers()) {
                if (member instanceof VariableTree field) {
                    Set<Modifier> flags = field.getModifiers().getFlags();
                    boolean isStatic = flags.contains(Modifier.STATIC);
                    fields += isStatic ? 0 : 1;
                    check(!isStatic || flags.contains(Modifier.FINAL), "static and not final: " + field);
                }
                check(member.getKind() != Tree.Kind.BLOCK, "an initialiser block in " + tree.getSimpleName());
            }
            check(fields <= MOST_FIELDS, tree.getSimpleName() + " has " + fields + " fields");
            return super.visitClass(tree, nothing);
        }

        @Override
        public Void visitMethod(MethodTree tree, Void nothing) {
            method = trees.getElement(getCurrentPath());
            CALLS.computeIfAbsent(method, m -> new LinkedHashSet<>());
            String name = tree.getName().toString();
            check(tree.getParameters().size() <= MOST_PARAMETERS, name + " has too many parameters");
            check(line(tree, true) - line(tree, false) < MOST_LINES, name + " is too long");
            boolean isPublic = tree.getModifiers().getFlags().contains(Modifier.PUBLIC);
            check(isPublic || !FACE.contains(name), name + " bears the name of a public method");
            check(!Set.of("equals", "hashCode", "toString").contains(name), "there is a method " + name);
            return super.visitMethod(tree, nothing);
        }

        @Override
        public Void visitMethodInvocation(MethodInvocationTree tree, Void nothing) {
            noteCall(tree);
            return super.visitMethodInvocation(tree, nothing);
        }

        @Override
        public Void visitNewClass(NewClassTree tree, Void nothing) {
            Element made = trees.getElement(getCurrentPath());
            String owner = made.getEnclosingElement().getSimpleName().toString();
            if (!EXCEPTIONS.contains(owner)) {
                noteCall(tree);
            }
            check(tree.getClassBody() == null, "line " + line(tree, false) + ": an anonymous class");
            return super.visitNewClass(tree, nothing);
        }

        private void noteCall(Tree tree) {
            Element called = trees.getElement(getCurrentPath());
            TypeElement owner = (TypeElement) called.getEnclosingElement();
            String name = owner.getQualifiedName() + "." + called.getSimpleName();
            if (name.startsWith("SaggarKiln")) {
                if (method != null) {
                    CALLS.computeIfAbsent(method, m -> new LinkedHashSet<>()).add(called);
                }
            } else if (!LIBRARY.contains(name)) {
                forbid(tree, "the library's " + name);
            }
        }

        @Override
        public Void visitThrow(ThrowTree tree, Void nothing) {
            boolean isNew = tree.getExpression() instanceof NewClassTree made
                    && EXCEPTIONS.contains(made.getIdentifier().toString());
            check(isNew, "line " + line(tree, false) + ": " + tree);
            check(method.getKind() != ElementKind.CONSTRUCTOR, "line " + line(tree, false) + ": a throw in a constructor");
            return super.visitThrow(tree, nothing);
        }

        @Override
        public Void visitBinary(BinaryTree tree, Void nothing) {
            boolean isText = trees.getTypeMirror(getCurrentPath()).getKind() == TypeKind.DECLARED;
            check(!isText, "line " + line(tree, false) + ": texts joined by +");
            return super.visitBinary(tree, nothing);
        }

        @Override
        public Void visitLiteral(LiteralTree tree, Void nothing) {
            if (tree.getValue() instanceof String text) {
                check(text.chars().allMatch(c -> c >= 1 && c <= 127), "line " + line(tree, false) + ": " + text);
            }
            return super.visitLiteral(tree, nothing);
        }

        @Override
        public Void visitTry(TryTree tree, Void nothing) {
            // The class needs none: what a change ends with is a number.
            forbid(tree, "a try");
            return super.visitTry(tree, nothing);
        }

        @Override
        public Void visitLambdaExpression(LambdaExpressionTree tree, Void nothing) {
            forbid(tree, "a lambda");
            return super.visitLambdaExpression(tree, nothing);
        }

        @Override
        public Void visitMemberReference(MemberReferenceTree tree, Void nothing) {
            forbid(tree, "a method reference");
            return super.visitMemberReference(tree, nothing);
        }

        @Override
        public Void visitSynchronized(SynchronizedTree tree, Void nothing) {
            forbid(tree, "synchronized");
            return super.visitSynchronized(tree, nothing);
        }

        @Override
        public Void visitAssert(AssertTree tree, Void nothing) {
            forbid(tree, "assert");
            return super.visitAssert(tree, nothing);
        }
    }
}

import com.sun.source.tree.AssertTree;
import com.sun.source.tree.BinaryTree;
import com.sun.source.tree.BlockTree;
import com.sun.source.tree.ClassTree;
import com.sun.source.tree.CompilationUnitTree;
import com.sun.source.tree.CompoundAssignmentTree;
import com.sun.source.tree.DoWhileLoopTree;
import com.sun.source.tree.ExpressionTree;
import com.sun.source.tree.ForLoopTree;
import com.sun.source.tree.ImportTree;
import com.sun.source.tree.LambdaExpressionTree;
import com.sun.source.tree.LiteralTree;
import com.sun.source.tree.MemberReferenceTree;
import com.sun.source.tree.MethodInvocationTree;
import com.sun.source.tree.MethodTree;
import com.sun.source.tree.NewArrayTree;
import com.sun.source.tree.NewClassTree;
import com.sun.source.tree.SynchronizedTree;
import com.sun.source.tree.ThrowTree;
import com.sun.source.tree.Tree;
import com.sun.source.tree.TryTree;
import com.sun.source.tree.VariableTree;
import com.sun.source.tree.WhileLoopTree;
import com.sun.source.util.JavacTask;
import com.sun.source.util.TreePath;
import com.sun.source.util.TreePathScanner;
import com.sun.source.util.Trees;
import java.io.File;
import java.io.IOException;
import java.nio.file.Files;
import java.nio.file.Path;
import java.util.ArrayList;
import java.util.HashMap;
import java.util.LinkedHashSet;
import java.util.List;
import java.util.Map;
import java.util.Set;
import javax.lang.model.element.Element;
import javax.lang.model.element.ElementKind;
import javax.lang.model.element.Modifier;
import javax.lang.model.element.TypeElement;
import javax.tools.JavaCompiler;
import javax.tools.StandardJavaFileManager;
import javax.tools.ToolProvider;

/** The rules of LANGUAGE.md that the program's text shows, read by the compiler itself. */
public final class LanguageTest {
    private static final File PROGRAM = new File("src/main/java/AbsentLords.java");
    private static final int LONGEST_METHOD = 65;
    private static final int DEEPEST_CALLS = 8;
    private static final Set<String> LIBRARY = Set.of("String.length", "String.charAt", "String.isEmpty", "String.equals",
            "String.indexOf", "String.substring", "String.toCharArray", "StringBuilder.append", "StringBuilder.charAt",
            "StringBuilder.setCharAt", "StringBuilder.setLength", "StringBuilder.deleteCharAt", "StringBuilder.reverse",
            "StringBuilder.length", "StringBuilder.toString", "System.arraycopy", "Arrays.copyOf", "Arrays.copyOfRange",
            "Arrays.fill", "Array.clone", "List.of");
    private static final Set<String> LISTS = Set.of("add", "get", "set", "remove", "size", "isEmpty", "clear");
    private static final Set<String> STATIC_TYPES = Set.of("int", "long", "boolean", "char", "java.lang.String", "int[]",
            "long[]", "char[]", "byte[]");
    private static final Set<String> TYPES = Set.of("int", "long", "short", "byte", "char", "boolean", "double", "float",
            "void", "none", "java.lang.String", "java.lang.StringBuilder", "java.lang.Integer");

    private final Due due = new Due();
    private Trees trees;
    private CompilationUnitTree unit;
    /** Which methods each one calls. */
    private final Map<Element, Set<Element>> calls = new HashMap<>();

    public static void main(String[] args) throws IOException {
        LanguageTest test = new LanguageTest();
        test.signs();
        test.read();
        test.depths();
        test.due.end();
    }

    private void signs() throws IOException {
        due.about("4. .. constants, whose signs are 1 to 127");
        for (String line : Files.readAllLines(Path.of(PROGRAM.getPath()))) {
            due.is("signs of: " + line, line.matches("[ -~]*"), true);
        }
    }

    private void read() throws IOException {
        JavaCompiler compiler = ToolProvider.getSystemJavaCompiler();
        try (StandardJavaFileManager files = compiler.getStandardFileManager(null, null, null)) {
            JavacTask task = (JavacTask) compiler.getTask(null, files, null, List.of("-proc:none"), null,
                    files.getJavaFileObjects(PROGRAM));
            trees = Trees.instance(task);
            unit = task.parse().iterator().next();
            task.analyze();
            new Rules().scan(unit, null);
        }
    }

    private String at(Tree tree) {
        long start = trees.getSourcePositions().getStartPosition(unit, tree);
        return "line " + unit.getLineMap().getLineNumber(start);
    }

    private long linesOf(Tree tree) {
        long start = trees.getSourcePositions().getStartPosition(unit, tree);
        long end = trees.getSourcePositions().getEndPosition(unit, tree);
        return unit.getLineMap().getLineNumber(end) - unit.getLineMap().getLineNumber(start) + 1;
    }

    private void refused(String rule, Tree tree) {
        due.about(rule);
        due.is(at(tree), true, false);
    }

    private static boolean isOwn(Element element) {
        Element outer = element;
        while (outer != null && outer.getKind() != ElementKind.PACKAGE) {
            if (outer.getSimpleName().contentEquals("AbsentLords")) {
                return true;
            }
            outer = outer.getEnclosingElement();
        }
        return false;
    }

    private void depths() {
        due.about("11. .. calls that are no recursion go at most eight deep");
        due.is("methods were found", calls.size() > 46, true);
        for (Element method : calls.keySet()) {
            List<Element> open = new ArrayList<>();
            due.is("calls from " + method, longest(method, open) <= DEEPEST_CALLS, true);
        }
    }

    /** The longest way down from a method, on which none stands twice. */
    private int longest(Element method, List<Element> open) {
        int most = 0;
        open.add(method);
        for (Element called : calls.getOrDefault(method, Set.of())) {
            most = open.contains(called) ? most : Math.max(most, longest(called, open));
        }
        open.remove(open.size() - 1);
        return most + 1;
    }

    private final class Rules extends TreePathScanner<Void, Void> {
        private Element method = null;

        private Element elementOf(Tree tree) {
            return trees.getElement(new TreePath(getCurrentPath(), tree));
        }

        private String typeOf(Tree tree) {
            return String.valueOf(trees.getTypeMirror(new TreePath(getCurrentPath(), tree)));
        }

        @Override
        public Void visitImport(ImportTree tree, Void none) {
            due.about("4. The library: only what stands here.");
            String name = tree.getQualifiedIdentifier().toString();
            Set<String> allowed = Set.of("java.util.ArrayList", "java.util.List", "java.util.Arrays", "java.util.Iterator");
            due.is("import of " + name, allowed.contains(name) && !tree.isStatic(), true);
            return super.visitImport(tree, none);
        }

        @Override
        public Void visitClass(ClassTree tree, Void none) {
            due.about("2. Classes inside: .. no local or anonymous class");
            Tree.Kind above = getCurrentPath().getParentPath().getLeaf().getKind();
            due.is("a class at " + at(tree), above == Tree.Kind.COMPILATION_UNIT || above == Tree.Kind.CLASS
                    || above == Tree.Kind.INTERFACE || above == Tree.Kind.ENUM || above == Tree.Kind.RECORD, true);
            due.about("5. .. no static initialiser block");
            for (Tree member : tree.getMembers()) {
                due.is("a block at " + at(member), member instanceof BlockTree block && block.isStatic(), false);
            }
            return super.visitClass(tree, none);
        }

        @Override
        public Void visitMethod(MethodTree tree, Void none) {
            Element outer = method;
            method = trees.getElement(getCurrentPath());
            calls.putIfAbsent(method, new LinkedHashSet<>());
            due.about("11. .. Methods stay short (some sixty lines)");
            due.is(tree.getName() + " at " + at(tree), linesOf(tree) <= LONGEST_METHOD, true);
            due.about("6. .. No equals, hashCode or toString of your own objects");
            due.is(tree.getName().toString(), Set.of("equals", "hashCode", "toString").contains(tree.getName().toString()), false);
            super.visitMethod(tree, none);
            method = outer;
            return null;
        }

        @Override
        public Void visitMethodInvocation(MethodInvocationTree tree, Void none) {
            Element called = elementOf(tree.getMethodSelect());
            if (isOwn(called)) {
                calls.computeIfAbsent(method, m -> new LinkedHashSet<>()).add(called);
            } else {
                due.about("4. The library: only what stands here.");
                String of = called.getEnclosingElement().getSimpleName().toString();
                String name = called.getSimpleName().toString();
                boolean numbers = Set.of("Integer", "Long", "Math").contains(of)
                        && called.getModifiers().contains(Modifier.STATIC) && !name.endsWith("Exact");
                boolean list = Set.of("List", "ArrayList", "Collection").contains(of) && LISTS.contains(name);
                boolean made = name.equals("<init>") && Set.of("Object", "Enum", "Record").contains(of);
                due.is(of + "." + name + " at " + at(tree), numbers || list || made || LIBRARY.contains(of + "." + name), true);
            }
            return super.visitMethodInvocation(tree, none);
        }

        @Override
        public Void visitNewClass(NewClassTree tree, Void none) {
            due.about("2. .. no .. anonymous class; 4. The library");
            due.is("a body at " + at(tree), tree.getClassBody() == null, true);
            Element made = trees.getElement(getCurrentPath());
            if (isOwn(made) && method != null) {
                calls.get(method).add(made);
            }
            String of = ((TypeElement) made.getEnclosingElement()).getQualifiedName().toString();
            due.is("new " + of, isOwn(made)
                    || Set.of("java.lang.String", "java.lang.StringBuilder", "java.util.ArrayList").contains(of), true);
            return super.visitNewClass(tree, none);
        }

        @Override
        public Void visitVariable(VariableTree tree, Void none) {
            Element variable = trees.getElement(getCurrentPath());
            String type = String.valueOf(trees.getTypeMirror(getCurrentPath()));
            String plain = type.replaceFirst("(\\[\\]){1,2}$", "").replaceAll("<.*", "");
            due.about("3. Types");
            due.is(tree.getName() + " of " + type, TYPES.contains(plain) || plain.startsWith("AbsentLords")
                    || plain.equals("java.util.List") || plain.equals("java.util.ArrayList"), true);
            boolean numbers = Set.of("int", "long", "short", "byte", "char", "double", "float").contains(plain);
            due.is(tree.getName() + " of two dimensions", type.endsWith("[][]") && !numbers, false);
            if (variable.getKind() == ElementKind.FIELD && variable.getModifiers().contains(Modifier.STATIC)) {
                due.about("5. Static fields are final: constants .. and arrays .. written out in their initialiser");
                due.is(tree.getName() + " of " + type, STATIC_TYPES.contains(type), true);
                due.is(tree.getName() + " is final", variable.getModifiers().contains(Modifier.FINAL), true);
                due.is(tree.getName() + " is written out", !type.endsWith("[]")
                        || tree.getInitializer() instanceof NewArrayTree row && row.getInitializers() != null, true);
            }
            return super.visitVariable(tree, none);
        }

        @Override
        public Void visitBinary(BinaryTree tree, Void none) {
            String left = typeOf(tree.getLeftOperand());
            String right = typeOf(tree.getRightOperand());
            Set<String> texts = Set.of("java.lang.String", "java.lang.Integer");
            if (tree.getKind() == Tree.Kind.PLUS) {
                due.about("10. .. joining texts by StringBuilder (not by +)");
                due.is("+ at " + at(tree), (left + right).contains("java.lang.String"), false);
            } else if (tree.getKind() == Tree.Kind.EQUAL_TO || tree.getKind() == Tree.Kind.NOT_EQUAL_TO) {
                due.about("6. .. never between two Strings or two Integers");
                due.is("== at " + at(tree), texts.contains(left) && texts.contains(right), false);
            }
            return super.visitBinary(tree, none);
        }

        @Override
        public Void visitCompoundAssignment(CompoundAssignmentTree tree, Void none) {
            due.about("10. .. joining texts by StringBuilder (not by +)");
            due.is("+= at " + at(tree), typeOf(tree.getVariable()).equals("java.lang.String"), false);
            return super.visitCompoundAssignment(tree, none);
        }

        private void bounded(ExpressionTree condition, Tree loop) {
            due.about("9. Every loop has an end that can be seen from its own lines");
            boolean endless = condition == null || condition instanceof LiteralTree
                    || condition.toString().equals("(true)");
            due.is("the loop at " + at(loop), endless, false);
        }

        @Override
        public Void visitForLoop(ForLoopTree tree, Void none) {
            bounded(tree.getCondition(), tree);
            return super.visitForLoop(tree, none);
        }

        @Override
        public Void visitWhileLoop(WhileLoopTree tree, Void none) {
            bounded(tree.getCondition(), tree);
            return super.visitWhileLoop(tree, none);
        }

        @Override
        public Void visitDoWhileLoop(DoWhileLoopTree tree, Void none) {
            bounded(tree.getCondition(), tree);
            return super.visitDoWhileLoop(tree, none);
        }

        @Override
        public Void visitLambdaExpression(LambdaExpressionTree tree, Void none) {
            refused("2. .. no lambda", tree);
            return super.visitLambdaExpression(tree, none);
        }

        @Override
        public Void visitMemberReference(MemberReferenceTree tree, Void none) {
            refused("2. .. no method reference", tree);
            return super.visitMemberReference(tree, none);
        }

        @Override
        public Void visitThrow(ThrowTree tree, Void none) {
            refused("6. No throw", tree);
            return super.visitThrow(tree, none);
        }

        @Override
        public Void visitTry(TryTree tree, Void none) {
            refused("6. No .. try, catch", tree);
            return super.visitTry(tree, none);
        }

        @Override
        public Void visitSynchronized(SynchronizedTree tree, Void none) {
            refused("6. No .. synchronized", tree);
            return super.visitSynchronized(tree, none);
        }

        @Override
        public Void visitAssert(AssertTree tree, Void none) {
            refused("6. No .. assert", tree);
            return super.visitAssert(tree, none);
        }
    }
}

import com.sun.source.tree.AssertTree;
import com.sun.source.tree.BinaryTree;
import com.sun.source.tree.ClassTree;
import com.sun.source.tree.CompilationUnitTree;
import com.sun.source.tree.LambdaExpressionTree;
import com.sun.source.tree.MemberReferenceTree;
import com.sun.source.tree.MemberSelectTree;
import com.sun.source.tree.MethodInvocationTree;
import com.sun.source.tree.MethodTree;
import com.sun.source.tree.NewArrayTree;
import com.sun.source.tree.NewClassTree;
import com.sun.source.tree.SynchronizedTree;
import com.sun.source.tree.ThrowTree;
import com.sun.source.tree.Tree;
import com.sun.source.tree.TryTree;
import com.sun.source.tree.VariableTree;
import com.sun.source.util.JavacTask;
import com.sun.source.util.TreePath;
import com.sun.source.util.TreePathScanner;
import com.sun.source.util.Trees;
import java.io.File;
import java.util.ArrayDeque;
import java.util.Deque;
import java.util.HashMap;
import java.util.HashSet;
import java.util.List;
import java.util.Map;
import java.util.Set;
import java.util.TreeMap;
import java.util.TreeSet;
import javax.lang.model.element.Element;
import javax.lang.model.element.ElementKind;
import javax.lang.model.element.ExecutableElement;
import javax.lang.model.element.Modifier;
import javax.tools.JavaCompiler;
import javax.tools.StandardJavaFileManager;
import javax.tools.ToolProvider;

/** The rules of LANGUAGE.md that can be read off src/main/java/WebBank.java. */
public final class LanguageTest {
    private static final Set<String> FACE = Set.of("status", "top", "bottom", "tray", "write", "read", "pour", "feed",
        "bank", "decades", "fault", "told", "corner", "rank", "clerk", "rankOf", "client", "year", "move", "swap", "fan",
        "dust", "look", "run", "hire", "open", "calm", "rule", "greyIn", "rankIn", "unpaidIn", "cashIn", "seating",
        "seatOf", "liked", "isLiked", "soon", "soonAt", "worth", "leastFan", "fits", "fitsAt", "ask", "comes", "comesFor",
        "calms", "calmSet", "game", "who", "shams", "share", "copyGrey", "live", "lived", "mean", "mark", "undo");
    private static final Set<String> LIBRARY = Set.of("java.lang.Math.max", "java.lang.Math.min",
        "java.lang.Integer.bitCount", "java.lang.String.length", "java.lang.String.charAt", "java.lang.System.arraycopy",
        "java.lang.Object.<init>");
    private static final int MOST_DEEP = 8;

    private int wrong = 0;
    private final Map<String, Set<String>> calls = new TreeMap<>();
    private final Map<String, Boolean> privateStatic = new HashMap<>();
    private final Set<String> publicMethods = new TreeSet<>();
    private Trees trees;
    private CompilationUnitTree unit;

    private void mustBe(boolean good, int rule, String what) {
        if (!good) {
            wrong++;
            System.out.println("rule " + rule + ": " + what);
        }
    }

    private long lineOf(Tree tree) {
        return unit.getLineMap().getLineNumber(trees.getSourcePositions().getStartPosition(unit, tree));
    }

    private long linesOf(Tree tree) {
        long end = trees.getSourcePositions().getEndPosition(unit, tree);
        return unit.getLineMap().getLineNumber(end) - lineOf(tree) + 1;
    }

    private static String nameOf(ExecutableElement method) {
        return method.getEnclosingElement() + "." + method.getSimpleName();
    }

    private final class Scanner extends TreePathScanner<Void, Void> {
        private final Deque<String> methods = new ArrayDeque<>();
        private int classes = 0;

        private String at(Tree tree) {
            return " at line " + lineOf(tree);
        }

        @Override
        public Void visitClass(ClassTree tree, Void none) {
            Element element = trees.getElement(getCurrentPath());
            boolean outer = element.getSimpleName().contentEquals("WebBank");
            classes++;
            mustBe(classes <= 12, 11, "more than twelve classes");
            mustBe(outer || element.getModifiers().contains(Modifier.STATIC), 2, "a class inside that isn't static" + at(tree));
            mustBe(outer || !element.getModifiers().contains(Modifier.PUBLIC), 1, "a public class inside" + at(tree));
            mustBe(element.getEnclosingElement().getKind() != ElementKind.METHOD, 2, "a local class" + at(tree));
            int fields = 0;
            for (Tree member : tree.getMembers()) {
                if (member instanceof VariableTree field) {
                    Set<Modifier> of = field.getModifiers().getFlags();
                    boolean isStatic = of.contains(Modifier.STATIC);
                    fields += isStatic ? 0 : 1;
                    mustBe(!isStatic || of.contains(Modifier.FINAL), 5, "a static field that can change" + at(field));
                    boolean face = field.getName().contentEquals("NONE") && of.contains(Modifier.PUBLIC);
                    mustBe(!outer || face || of.contains(Modifier.PRIVATE), 1, "a field that can be seen" + at(field));
                }
            }
            mustBe(fields <= 20, 11, fields + " fields" + at(tree));
            return super.visitClass(tree, none);
        }

        @Override
        public Void visitMethod(MethodTree tree, Void none) {
            ExecutableElement method = (ExecutableElement) trees.getElement(getCurrentPath());
            Set<Modifier> of = method.getModifiers();
            String name = method.getSimpleName().toString();
            boolean outer = method.getEnclosingElement().getSimpleName().contentEquals("WebBank");
            boolean isPublic = of.contains(Modifier.PUBLIC);
            mustBe(tree.getParameters().size() <= 7, 11, "more than seven parameters" + at(tree));
            mustBe(linesOf(tree) <= 60, 11, "a long method" + at(tree));
            mustBe(method.getThrownTypes().isEmpty(), 6, "throws" + at(tree));
            if (name.equals("<init>")) {
                mustBe(!outer || isPublic, 1, "the constructor");
            } else if (outer && isPublic) {
                publicMethods.add(name);
            } else {
                mustBe(!FACE.contains(name), 1, "another method " + name + at(tree));
                mustBe(!outer || of.contains(Modifier.PRIVATE), 1, "a method that can be seen, " + name);
            }
            mustBe(!Set.of("equals", "hashCode", "toString").contains(name), 6, name + at(tree));
            privateStatic.put(nameOf(method), of.contains(Modifier.PRIVATE) && of.contains(Modifier.STATIC));
            methods.push(nameOf(method));
            calls.computeIfAbsent(nameOf(method), k -> new TreeSet<>());
            super.visitMethod(tree, none);
            methods.pop();
            return null;
        }

        private void addCall(Tree tree, Element called) {
            if (called instanceof ExecutableElement method && !methods.isEmpty()) {
                String name = nameOf(method);
                mustBe(name.startsWith("WebBank") || LIBRARY.contains(name), 4, name + at(tree));
                calls.get(methods.peek()).add(name);
            }
        }

        @Override
        public Void visitMethodInvocation(MethodInvocationTree tree, Void none) {
            addCall(tree, trees.getElement(new TreePath(getCurrentPath(), tree.getMethodSelect())));
            return super.visitMethodInvocation(tree, none);
        }

        @Override
        public Void visitNewClass(NewClassTree tree, Void none) {
            mustBe(tree.getClassBody() == null, 2, "an anonymous class" + at(tree));
            mustBe(methods.isEmpty() || methods.peek().endsWith("<init>"), 12, "a call makes an object" + at(tree));
            addCall(tree, trees.getElement(getCurrentPath()));
            return super.visitNewClass(tree, none);
        }

        @Override
        public Void visitNewArray(NewArrayTree tree, Void none) {
            mustBe(methods.isEmpty(), 12, "a call makes a row" + at(tree));
            return super.visitNewArray(tree, none);
        }

        @Override
        public Void visitLambdaExpression(LambdaExpressionTree tree, Void none) {
            mustBe(false, 2, "a lambda" + at(tree));
            return super.visitLambdaExpression(tree, none);
        }

        @Override
        public Void visitMemberReference(MemberReferenceTree tree, Void none) {
            mustBe(false, 2, "a method reference" + at(tree));
            return super.visitMemberReference(tree, none);
        }

        @Override
        public Void visitThrow(ThrowTree tree, Void none) {
            mustBe(false, 6, "throw" + at(tree));
            return super.visitThrow(tree, none);
        }

        @Override
        public Void visitTry(TryTree tree, Void none) {
            mustBe(false, 6, "try" + at(tree));
            return super.visitTry(tree, none);
        }

        @Override
        public Void visitSynchronized(SynchronizedTree tree, Void none) {
            mustBe(false, 6, "synchronized" + at(tree));
            return super.visitSynchronized(tree, none);
        }

        @Override
        public Void visitAssert(AssertTree tree, Void none) {
            mustBe(false, 6, "assert" + at(tree));
            return super.visitAssert(tree, none);
        }

        @Override
        public Void visitBinary(BinaryTree tree, Void none) {
            String type = "" + trees.getTypeMirror(getCurrentPath());
            mustBe(!type.contains("String"), 10, "texts joined by +" + at(tree));
            if (tree.getKind() == Tree.Kind.DIVIDE || tree.getKind() == Tree.Kind.REMAINDER) {
                String by = tree.getRightOperand().toString();
                boolean known = by.matches("[1-9][0-9]*") || Set.of("divisor", "small", "n").contains(by);
                mustBe(known, 7, "a divisor that no test stands ahead of" + at(tree));
            }
            return super.visitBinary(tree, none);
        }

        @Override
        public Void visitMemberSelect(MemberSelectTree tree, Void none) {
            mustBe(!tree.getIdentifier().contentEquals("class"), 4, "a class's class" + at(tree));
            return super.visitMemberSelect(tree, none);
        }
    }

    /** How deep calls go from a method on; one that calls itself counts once. */
    private int depthFrom(String method, Set<String> open) {
        int deepest = 0;
        for (String called : calls.getOrDefault(method, Set.of())) {
            if (called.equals(method)) {
                mustBe(privateStatic.getOrDefault(method, false), 8, method + " calls itself");
            } else {
                mustBe(!open.contains(called), 8, called + " is come to again by others");
                if (!open.contains(called)) {
                    open.add(called);
                    deepest = Math.max(deepest, depthFrom(called, open));
                    open.remove(called);
                }
            }
        }
        return deepest + 1;
    }

    private void check(File source) throws Exception {
        JavaCompiler compiler = ToolProvider.getSystemJavaCompiler();
        try (StandardJavaFileManager files = compiler.getStandardFileManager(null, null, null)) {
            JavacTask task = (JavacTask) compiler.getTask(null, files, null, List.of("-proc:none"), null,
                files.getJavaFileObjects(source));
            trees = Trees.instance(task);
            unit = task.parse().iterator().next();
            task.analyze();
            mustBe(unit.getPackageName() == null, 1, "a package");
            mustBe(unit.getImports().isEmpty(), 4, "an import");
            mustBe(unit.getTypeDecls().size() == 1, 1, "one class");
            new Scanner().scan(unit, null);
        }
        mustBe(publicMethods.equals(FACE), 1, "the face: " + publicMethods);
        for (String method : calls.keySet()) {
            int deep = depthFrom(method, new HashSet<>(Set.of(method)));
            mustBe(deep <= MOST_DEEP, 11, method + " goes " + deep + " deep");
        }
        for (char c : java.nio.file.Files.readString(source.toPath()).toCharArray()) {
            mustBe(c < 128, 4, "a sign above 127");
        }
    }

    public static void main(String[] args) throws Exception {
        LanguageTest test = new LanguageTest();
        test.check(new File("src/main/java/WebBank.java"));
        System.out.println(test.wrong == 0 ? "the source keeps to the language" : test.wrong + " breaks of the language");
        if (test.wrong != 0) System.exit(1);
    }
}

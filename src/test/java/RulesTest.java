import com.sun.source.tree.AssertTree;
import com.sun.source.tree.BinaryTree;
import com.sun.source.tree.CatchTree;
import com.sun.source.tree.ClassTree;
import com.sun.source.tree.CompilationUnitTree;
import com.sun.source.tree.DoWhileLoopTree;
import com.sun.source.tree.ExpressionTree;
import com.sun.source.tree.ForLoopTree;
import com.sun.source.tree.ImportTree;
import com.sun.source.tree.LambdaExpressionTree;
import com.sun.source.tree.LineMap;
import com.sun.source.tree.LiteralTree;
import com.sun.source.tree.MemberReferenceTree;
import com.sun.source.tree.MethodInvocationTree;
import com.sun.source.tree.MethodTree;
import com.sun.source.tree.NewClassTree;
import com.sun.source.tree.SynchronizedTree;
import com.sun.source.tree.ThrowTree;
import com.sun.source.tree.Tree;
import com.sun.source.tree.TryTree;
import com.sun.source.tree.WhileLoopTree;
import com.sun.source.util.JavacTask;
import com.sun.source.util.SourcePositions;
import com.sun.source.util.TreePath;
import com.sun.source.util.TreePathScanner;
import com.sun.source.util.Trees;
import java.io.IOException;
import java.lang.reflect.Constructor;
import java.lang.reflect.Field;
import java.lang.reflect.Method;
import java.lang.reflect.Modifier;
import java.nio.file.Files;
import java.nio.file.Path;
import java.util.Arrays;
import java.util.HashMap;
import java.util.HashSet;
import java.util.List;
import java.util.Map;
import java.util.Set;
import java.util.TreeSet;
import java.util.stream.Collectors;
import javax.lang.model.element.Element;
import javax.lang.model.type.TypeKind;
import javax.lang.model.type.TypeMirror;
import javax.tools.JavaCompiler;
import javax.tools.ToolProvider;

/** The face as the document prints it, and those rules of LANGUAGE.md that can be read off the source. */
public final class RulesTest extends TreePathScanner<Void, Void> {
    private static final Path PROGRAM = Path.of("src/main/java/ProbeLocks.java");
    private static final Path DOCUMENT = Path.of("../shared/DOC.md");
    private static final String LIBRARY = "java\\.lang\\.("
            + "String\\.(length|charAt|isEmpty|equals|indexOf|substring|toCharArray)"
            + "|StringBuilder\\.(append|charAt|setCharAt|setLength|deleteCharAt|reverse|length|toString)"
            + "|(Integer|Long|Math)\\.(?!\\w*Exact)\\w+|System\\.arraycopy)"
            + "|java\\.util\\.(Array)?List(<.*>)?\\.(add|get|set|remove|size|isEmpty|clear|of)"
            + "|java\\.util\\.Arrays\\.(copyOf|copyOfRange|fill)|Array\\.clone";
    private static final String EXCEPTION = "java\\.lang\\.(IllegalState|IllegalArgument|IndexOutOfBounds|Arithmetic"
            + "|UnsupportedOperation|Runtime)Exception|java\\.util\\.NoSuchElementException";
    private static final String MADE = EXCEPTION + "|java\\.lang\\.(String|StringBuilder)|java\\.util\\.ArrayList(<.*>)?";

    private final Trees trees;
    private final SourcePositions positions;
    private final CompilationUnitTree unit;
    private final Map<Element, Set<Element>> calls = new HashMap<>();
    private Element method;
    private int classes;

    private RulesTest(Trees trees, CompilationUnitTree unit) {
        this.trees = trees;
        this.positions = trees.getSourcePositions();
        this.unit = unit;
    }

    public static void main(String[] args) throws IOException {
        face();
        members();
        JavaCompiler compiler = ToolProvider.getSystemJavaCompiler();
        var files = compiler.getStandardFileManager(null, null, null);
        JavacTask task = (JavacTask) compiler.getTask(null, files, null,
                List.of("-proc:none"), null, files.getJavaFileObjects(PROGRAM));
        CompilationUnitTree unit = task.parse().iterator().next();
        task.analyze();
        RulesTest rules = new RulesTest(Trees.instance(task), unit);
        rules.scan(unit, null);
        rules.wholeFile();
        Check.done("RulesTest");
    }

    private static String names(Class<?>[] types) {
        return Arrays.stream(types).map(Class::getSimpleName).collect(Collectors.joining(", "));
    }

    private static String withThrows(String head, Class<?>[] thrown) {
        return head + (thrown.length == 0 ? "" : " throws " + names(thrown));
    }

    /** Each line of the document's face without the names of parameters, against what reflection sees. */
    private static void face() throws IOException {
        Set<String> due = new TreeSet<>();
        boolean inside = false;
        for (String line : Files.readAllLines(DOCUMENT)) {
            inside = inside ? !line.startsWith("```") : line.startsWith("```java");
            String bare = line.strip();
            if (inside && bare.startsWith("public ") && bare.endsWith(";")) {
                due.add(bare.substring(7, bare.length() - 1).replaceAll("\\bint \\w+(?=[,)])", "int"));
            }
        }
        Set<String> got = new TreeSet<>();
        for (Constructor<?> c : ProbeLocks.class.getConstructors()) {
            got.add(withThrows("ProbeLocks(" + names(c.getParameterTypes()) + ")", c.getExceptionTypes()));
        }
        for (Method m : ProbeLocks.class.getDeclaredMethods()) {
            if (Modifier.isPublic(m.getModifiers())) {
                String head = m.getReturnType().getSimpleName() + " " + m.getName();
                got.add(withThrows(head + "(" + names(m.getParameterTypes()) + ")", m.getExceptionTypes()));
            }
        }
        got.add("static final int NONE = " + ProbeLocks.NONE);
        Check.due("lines of the face in the document", due.size(), 37);
        Check.due("rule 1: the face", got.toString(), due.toString());
    }

    private static void members() {
        Set<String> open = new HashSet<>();
        for (Method m : ProbeLocks.class.getDeclaredMethods()) {
            if (Modifier.isPublic(m.getModifiers())) {
                open.add(m.getName());
            }
        }
        for (Method m : ProbeLocks.class.getDeclaredMethods()) {
            boolean isPrivate = Modifier.isPrivate(m.getModifiers());
            Check.due("rule 1: " + m + " is public or private", isPrivate != Modifier.isPublic(m.getModifiers()), true);
            Check.due("rule 1: private " + m + " has a name of its own", isPrivate && open.contains(m.getName()), false);
        }
        for (Field f : ProbeLocks.class.getDeclaredFields()) {
            boolean isPrivate = Modifier.isPrivate(f.getModifiers());
            Check.due("rule 1: " + f, isPrivate || f.getName().equals("NONE"), true);
            Check.due("rule 5: " + f, !Modifier.isStatic(f.getModifiers()) || Modifier.isFinal(f.getModifiers()), true);
        }
        for (Class<?> c : ProbeLocks.class.getDeclaredClasses()) {
            int modifiers = c.getModifiers();
            boolean isOpen = Modifier.isPublic(modifiers) || Modifier.isProtected(modifiers);
            Check.due("rule 1: " + c, !isOpen && Modifier.isStatic(modifiers), true);
            long fields = Arrays.stream(c.getDeclaredFields())
                    .filter(f -> !Modifier.isStatic(f.getModifiers())).count();
            Check.due("rule 11: fields of " + c, fields <= 20, true);
            for (Field f : c.getDeclaredFields()) {
                boolean isConstant = !Modifier.isStatic(f.getModifiers()) || Modifier.isFinal(f.getModifiers());
                Check.due("rule 5: " + f, isConstant, true);
            }
        }
    }

    private void refuse(String rule, Tree tree) {
        LineMap lines = unit.getLineMap();
        long line = lines.getLineNumber(positions.getStartPosition(unit, tree));
        Check.due(rule + " at line " + line + ": " + tree, false, true);
    }

    @Override
    public Void visitClass(ClassTree tree, Void nothing) {
        classes++;
        return super.visitClass(tree, nothing);
    }

    @Override
    public Void visitMethod(MethodTree tree, Void nothing) {
        method = trees.getElement(getCurrentPath());
        calls.putIfAbsent(method, new HashSet<>());
        LineMap lines = unit.getLineMap();
        long first = lines.getLineNumber(Math.max(0, positions.getStartPosition(unit, tree)));
        long last = lines.getLineNumber(Math.max(0, positions.getEndPosition(unit, tree)));
        Check.due("rule 11: lines of " + tree.getName(), last - first <= 60, true);
        Check.due("rule 11: parameters of " + tree.getName(), tree.getParameters().size() <= 7, true);
        super.visitMethod(tree, nothing);
        method = null;
        return null;
    }

    @Override
    public Void visitMethodInvocation(MethodInvocationTree tree, Void nothing) {
        Element callee = trees.getElement(getCurrentPath());
        String name = callee.getEnclosingElement() + "." + callee.getSimpleName();
        boolean isOwn = name.startsWith("ProbeLocks");
        boolean isSuper = callee.getSimpleName().contentEquals("<init>");
        Check.due("rule 4: " + name, isOwn || isSuper || name.matches(LIBRARY), true);
        if (method != null && !isSuper) {
            calls.get(method).add(callee);
        }
        return super.visitMethodInvocation(tree, nothing);
    }

    @Override
    public Void visitNewClass(NewClassTree tree, Void nothing) {
        String name = trees.getElement(getCurrentPath()).getEnclosingElement().toString();
        Check.due("rule 4: new " + name, name.startsWith("ProbeLocks") || name.matches(MADE), true);
        return super.visitNewClass(tree, nothing);
    }

    @Override
    public Void visitLambdaExpression(LambdaExpressionTree tree, Void nothing) {
        refuse("rule 2: no lambda", tree);
        return null;
    }

    @Override
    public Void visitMemberReference(MemberReferenceTree tree, Void nothing) {
        refuse("rule 2: no method reference", tree);
        return null;
    }

    @Override
    public Void visitTry(TryTree tree, Void nothing) {
        if (tree.getFinallyBlock() != null || !tree.getResources().isEmpty()) {
            refuse("rule 6: no finally, no resources", tree);
        }
        return super.visitTry(tree, nothing);
    }

    @Override
    public Void visitCatch(CatchTree tree, Void nothing) {
        Tree type = tree.getParameter().getType();
        Element caught = trees.getElement(TreePath.getPath(unit, type));
        Check.due("rule 6: catches " + caught, caught != null && caught.toString().matches(EXCEPTION), true);
        return super.visitCatch(tree, nothing);
    }

    @Override
    public Void visitThrow(ThrowTree tree, Void nothing) {
        boolean isWritten = tree.getExpression() instanceof NewClassTree made
                && made.getArguments().stream().allMatch(a -> a instanceof LiteralTree);
        boolean isInMethod = method != null && !method.getSimpleName().contentEquals("<init>");
        if (!isWritten || !isInMethod) {
            refuse("rule 6: throw new E() or E(\"a written text\"), in no constructor", tree);
        }
        return super.visitThrow(tree, nothing);
    }

    @Override
    public Void visitBinary(BinaryTree tree, Void nothing) {
        TypeMirror type = trees.getTypeMirror(getCurrentPath());
        boolean isText = tree.getKind() == Tree.Kind.PLUS && type.getKind() == TypeKind.DECLARED;
        if (isText) {
            refuse("rule 10: texts are not joined by +", tree);
        }
        return super.visitBinary(tree, nothing);
    }

    /** Whether the end really comes is for the reader; a loop that names none is refused here. */
    private void needsEnd(ExpressionTree condition, Tree loop) {
        String asked = condition == null ? "true" : condition.toString().replaceAll("[() ]", "");
        if (asked.equals("true")) {
            refuse("rule 9: the loop's own lines show its end", loop);
        }
    }

    @Override
    public Void visitForLoop(ForLoopTree tree, Void nothing) {
        needsEnd(tree.getCondition(), tree);
        return super.visitForLoop(tree, nothing);
    }

    @Override
    public Void visitWhileLoop(WhileLoopTree tree, Void nothing) {
        needsEnd(tree.getCondition(), tree);
        return super.visitWhileLoop(tree, nothing);
    }

    @Override
    public Void visitDoWhileLoop(DoWhileLoopTree tree, Void nothing) {
        needsEnd(tree.getCondition(), tree);
        return super.visitDoWhileLoop(tree, nothing);
    }

    @Override
    public Void visitSynchronized(SynchronizedTree tree, Void nothing) {
        refuse("rule 6: no synchronized", tree);
        return null;
    }

    @Override
    public Void visitAssert(AssertTree tree, Void nothing) {
        refuse("rule 6: no assert", tree);
        return null;
    }

    private void wholeFile() {
        for (ImportTree i : unit.getImports()) {
            boolean isListed = i.getQualifiedIdentifier().toString()
                    .matches("java\\.util\\.(ArrayList|Arrays|Iterator|List|NoSuchElementException)");
            Check.due("rule 4: " + i, isListed, true);
        }
        Check.due("rule 3: package", unit.getPackageName() == null, true);
        Check.due("rule 11: classes", classes <= 12, true);
        int deepest = 0;
        for (Element m : calls.keySet()) {
            deepest = Math.max(deepest, depth(m, new HashSet<>()));
        }
        Check.due("rule 11: calls go at most eight deep, not " + deepest, deepest <= 8, true);
    }

    /** How many calls stand open at once, this one with them; the library's own count one, and recursion none. */
    private int depth(Element m, Set<Element> open) {
        if (!open.add(m)) {
            return 0;
        }
        int deepest = 0;
        for (Element callee : calls.getOrDefault(m, Set.of())) {
            deepest = Math.max(deepest, depth(callee, open));
        }
        open.remove(m);
        return deepest + 1;
    }
}

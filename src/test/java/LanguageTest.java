import com.sun.source.tree.AssertTree;
import com.sun.source.tree.BinaryTree;
import com.sun.source.tree.ClassTree;
import com.sun.source.tree.CompilationUnitTree;
import com.sun.source.tree.CompoundAssignmentTree;
import com.sun.source.tree.ExpressionTree;
import com.sun.source.tree.ForLoopTree;
import com.sun.source.tree.ImportTree;
import com.sun.source.tree.LambdaExpressionTree;
import com.sun.source.tree.LiteralTree;
import com.sun.source.tree.MemberReferenceTree;
import com.sun.source.tree.MethodInvocationTree;
import com.sun.source.tree.MethodTree;
import com.sun.source.tree.NewClassTree;
import com.sun.source.tree.SynchronizedTree;
import com.sun.source.tree.ThrowTree;
import com.sun.source.tree.Tree;
import com.sun.source.tree.TryTree;
import com.sun.source.tree.TypeCastTree;
import com.sun.source.tree.VariableTree;
import com.sun.source.tree.WhileLoopTree;
import com.sun.source.util.JavacTask;
import com.sun.source.util.TreePath;
import com.sun.source.util.TreePathScanner;
import com.sun.source.util.Trees;
import java.io.IOException;
import java.nio.file.Files;
import java.nio.file.Path;
import java.util.HashMap;
import java.util.HashSet;
import java.util.List;
import java.util.Map;
import java.util.Set;
import java.util.TreeSet;
import java.util.regex.Matcher;
import java.util.regex.Pattern;
import javax.lang.model.element.Element;
import javax.lang.model.element.ElementKind;
import javax.lang.model.element.Modifier;
import javax.lang.model.type.TypeMirror;
import javax.tools.JavaCompiler;
import javax.tools.StandardJavaFileManager;
import javax.tools.ToolProvider;

/** The rules of ../shared/LANGUAGE.md that the program's tree shows. */
public final class LanguageTest extends TreePathScanner<Void, Void> {
    private static final Path PROGRAM = Path.of("src/main/java/StenoRooms.java");

    private static final Set<String> LIBRARY = Set.of("Math.max", "Math.min", "Integer.bitCount", "System.arraycopy",
        "Arrays.copyOf");

    private static final Set<String> TYPES = Set.of("int", "long", "boolean", "int[]", "boolean[]", "String");

    private static final Set<String> EXCEPTIONS = Set.of("IllegalStateException", "IllegalArgumentException",
        "IndexOutOfBoundsException");

    /** As the document writes it. */
    private static final String FACE = """
        public static final int NONE = -1;
        public StenoRooms();
        public int append(int c) throws IllegalArgumentException, IllegalStateException;
        public int clearText();
        public int errorPosition();
        public int load() throws IllegalStateException;
        public int about(int what) throws IllegalArgumentException;
        public int stenographer(int p, int what) throws IndexOutOfBoundsException, IllegalArgumentException;
        public int sessionOf(int k, int what) throws IndexOutOfBoundsException, IllegalArgumentException;
        public int transcript(int p, int i, int what) throws IndexOutOfBoundsException, IllegalArgumentException;
        public int setting(int what) throws IllegalArgumentException;
        public int hire(int speed) throws IllegalArgumentException, IllegalStateException;
        public int session(int room, int day, int first, int slots, int talk) throws IndexOutOfBoundsException, IllegalArgumentException, IllegalStateException;
        public int cancel(int k) throws IndexOutOfBoundsException;
        public int give(int k, int p) throws IndexOutOfBoundsException, IllegalStateException;
        public int giveAll();
        public int extend(int k, int n) throws IndexOutOfBoundsException, IllegalArgumentException;
        public int leave(int p, int days) throws IndexOutOfBoundsException, IllegalArgumentException;
        public int run(int n) throws IllegalArgumentException;
        public int set(int what, int v) throws IllegalArgumentException;
        public int undo() throws IllegalStateException;
        public int whyNot(int k, int p) throws IndexOutOfBoundsException;
        public int whom(int k) throws IndexOutOfBoundsException;
        public int coming(int n, int what) throws IllegalArgumentException;
        public int emptyIn(int p) throws IndexOutOfBoundsException;
        public int ifHired(int speed, int n) throws IllegalArgumentException, IllegalStateException;
        public int freeRoom(int day, int first, int slots) throws IllegalArgumentException;
        public int runScript(int n, long script) throws IllegalArgumentException;
        public int simulate(long seed, int m) throws IllegalArgumentException;
        public int save(int slot) throws IndexOutOfBoundsException;
        public int restore(int slot) throws IndexOutOfBoundsException, IllegalStateException;
        """;

    private static int wrong = 0;

    private final Trees trees;
    private final CompilationUnitTree unit;
    private final String text;

    private final Set<String> publicMethods = new HashSet<>();
    private final Set<String> otherMethods = new HashSet<>();
    private final Set<String> ownClasses = new HashSet<>();
    private final Map<Element, Set<Element>> calls = new HashMap<>();

    private LanguageTest(Trees trees, CompilationUnitTree unit, String text) {
        this.trees = trees;
        this.unit = unit;
        this.text = text;
    }

    public static void main(String[] args) throws IOException {
        JavaCompiler javac = ToolProvider.getSystemJavaCompiler();
        StandardJavaFileManager files = javac.getStandardFileManager(null, null, null);
        JavacTask task = (JavacTask) javac.getTask(null, files, null, List.of("-proc:none"), null,
            files.getJavaFileObjects(PROGRAM));
        CompilationUnitTree unit = task.parse().iterator().next();
        task.analyze();
        LanguageTest test = new LanguageTest(Trees.instance(task), unit, Files.readString(PROGRAM));
        test.rule1TheFaceIsTheDocuments();
        test.scan(unit, null);
        test.rule1NoPrivateMethodBearsThePublicName();
        test.rule11CallsGoAtMostEightDeep();
        System.out.println("LanguageTest: " + (wrong == 0 ? "all as due" : wrong + " rules broken"));
        if (wrong != 0) {
            System.exit(1);
        }
    }

    private static void rule(int number, boolean kept, String what) {
        if (!kept) {
            wrong++;
            System.out.println("rule " + number + " is broken: " + what);
        }
    }

    // ---- rule 1

    /** The public lines of the program, without their bodies, are those of the document's face. */
    private void rule1TheFaceIsTheDocuments() {
        Set<String> due = new TreeSet<>(List.of(FACE.strip().split("\n")));
        Set<String> found = new TreeSet<>();
        Matcher line = Pattern.compile("^    (public [^{;]*?)\\s*([{;])", Pattern.MULTILINE).matcher(text);
        while (line.find()) {
            found.add(line.group(1).replaceAll("\\s+", " ") + ";");
        }
        rule(1, due.equals(found), "the face should be " + due + " and is " + found);
    }

    private void rule1NoPrivateMethodBearsThePublicName() {
        for (String name : otherMethods) {
            rule(1, !publicMethods.contains(name), name + " is the name of a public method too");
        }
    }

    // ---- classes, methods, variables

    @Override
    public Void visitCompilationUnit(CompilationUnitTree node, Void nothing) {
        rule(1, node.getPackageName() == null && node.getTypeDecls().size() == 1, "one class without a package");
        for (ImportTree i : node.getImports()) {
            rule(4, i.getQualifiedIdentifier().toString().equals("java.util.Arrays"), i.toString());
        }
        rule(4, text.chars().allMatch(c -> c == '\n' || c >= 32 && c <= 126), "the text has signs 32 to 126");
        collectClasses(node.getTypeDecls().get(0));
        rule(11, ownClasses.size() <= 12, "at most twelve classes");
        return super.visitCompilationUnit(node, nothing);
    }

    private void collectClasses(Tree top) {
        if (top instanceof ClassTree c) {
            ownClasses.add(c.getSimpleName().toString());
            for (Tree member : c.getMembers()) {
                collectClasses(member);
            }
        }
    }

    @Override
    public Void visitClass(ClassTree node, Void nothing) {
        Set<Modifier> flags = node.getModifiers().getFlags();
        if (isTop(node)) {
            rule(1, flags.equals(Set.of(Modifier.PUBLIC, Modifier.FINAL)), "the class is public and final");
        } else {
            rule(2, parent() instanceof ClassTree && flags.contains(Modifier.STATIC), node.getSimpleName() + " is nested and static");
            rule(1, !flags.contains(Modifier.PUBLIC) && !flags.contains(Modifier.PROTECTED), node.getSimpleName() + " is not public");
        }
        int fields = 0;
        for (Tree member : node.getMembers()) {
            rule(5, member.getKind() != Tree.Kind.BLOCK, "no initialiser block in " + node.getSimpleName());
            if (member instanceof VariableTree v && !v.getModifiers().getFlags().contains(Modifier.STATIC)) {
                fields++;
            }
        }
        rule(11, fields <= 20, node.getSimpleName() + " has at most twenty fields");
        return super.visitClass(node, nothing);
    }

    private boolean isTop(ClassTree node) {
        return unit.getTypeDecls().contains(node);
    }

    private Tree parent() {
        return getCurrentPath().getParentPath().getLeaf();
    }

    @Override
    public Void visitMethod(MethodTree node, Void nothing) {
        String name = node.getName().toString();
        Set<Modifier> flags = node.getModifiers().getFlags();
        boolean constructor = name.equals("<init>");
        if (parent() instanceof ClassTree c && isTop(c)) {
            rule(1, flags.contains(Modifier.PUBLIC) || flags.contains(Modifier.PRIVATE), name + " is public or private");
        }
        if (!constructor) {
            (flags.contains(Modifier.PUBLIC) ? publicMethods : otherMethods).add(name);
        }
        rule(6, !Set.of("equals", "hashCode", "toString").contains(name), "no " + name + " of own objects");
        rule(11, node.getParameters().size() <= 7, name + " takes at most seven parameters");
        rule(11, linesOf(node) <= 60, name + " has at most sixty lines");
        calls.putIfAbsent(trees.getElement(getCurrentPath()), new HashSet<>());
        return super.visitMethod(node, nothing);
    }

    private long linesOf(Tree node) {
        long begin = trees.getSourcePositions().getStartPosition(unit, node);
        long end = trees.getSourcePositions().getEndPosition(unit, node);
        // A constructor that is not written has no end.
        return end < begin ? 0 : unit.getLineMap().getLineNumber(end) - unit.getLineMap().getLineNumber(begin) + 1;
    }

    @Override
    public Void visitVariable(VariableTree node, Void nothing) {
        Set<Modifier> flags = node.getModifiers().getFlags();
        if (parent() instanceof ClassTree c) {
            rule(5, !flags.contains(Modifier.STATIC) || flags.contains(Modifier.FINAL), node.getName() + " is final, as it is static");
            rule(1, !isTop(c) || flags.contains(Modifier.PRIVATE) || node.getName().contentEquals("NONE"), node.getName() + " is private");
        }
        String type = node.getType().toString();
        String element = type.endsWith("[]") ? type.substring(0, type.length() - 2) : type;
        rule(3, TYPES.contains(type) || ownClasses.contains(element), node.getName() + " is of the type " + type);
        return super.visitVariable(node, nothing);
    }

    // ---- statements and expressions

    @Override
    public Void visitLambdaExpression(LambdaExpressionTree node, Void nothing) {
        rule(2, false, "a lambda");
        return super.visitLambdaExpression(node, nothing);
    }

    @Override
    public Void visitMemberReference(MemberReferenceTree node, Void nothing) {
        rule(2, false, "a method reference");
        return super.visitMemberReference(node, nothing);
    }

    @Override
    public Void visitTry(TryTree node, Void nothing) {
        rule(6, false, "the program needs no try");
        return super.visitTry(node, nothing);
    }

    @Override
    public Void visitThrow(ThrowTree node, Void nothing) {
        boolean written = node.getExpression() instanceof NewClassTree made
            && EXCEPTIONS.contains(made.getIdentifier().toString())
            && made.getArguments().stream().allMatch(a -> a instanceof LiteralTree);
        rule(6, written, "throw new E or throw new E(a written text): " + node);
        rule(6, methodAround().getKind() != ElementKind.CONSTRUCTOR, "no throw in a constructor");
        return super.visitThrow(node, nothing);
    }

    @Override
    public Void visitAssert(AssertTree node, Void nothing) {
        rule(6, false, "an assert");
        return super.visitAssert(node, nothing);
    }

    @Override
    public Void visitSynchronized(SynchronizedTree node, Void nothing) {
        rule(6, false, "synchronized");
        return super.visitSynchronized(node, nothing);
    }

    @Override
    public Void visitTypeCast(TypeCastTree node, Void nothing) {
        rule(6, Set.of("int", "long").contains(node.getType().toString()), "a cast to " + node.getType());
        return super.visitTypeCast(node, nothing);
    }

    @Override
    public Void visitWhileLoop(WhileLoopTree node, Void nothing) {
        rule(9, !node.getCondition().toString().equals("(true)"), "a loop without an end");
        return super.visitWhileLoop(node, nothing);
    }

    @Override
    public Void visitForLoop(ForLoopTree node, Void nothing) {
        rule(9, node.getCondition() != null && !node.getUpdate().isEmpty(), "a loop without an end");
        return super.visitForLoop(node, nothing);
    }

    @Override
    public Void visitBinary(BinaryTree node, Void nothing) {
        rule(10, !isText(node.getLeftOperand()) && !isText(node.getRightOperand()), "texts joined or compared by " + node);
        return super.visitBinary(node, nothing);
    }

    @Override
    public Void visitCompoundAssignment(CompoundAssignmentTree node, Void nothing) {
        rule(10, !isText(node.getVariable()), "texts joined by " + node);
        return super.visitCompoundAssignment(node, nothing);
    }

    private boolean isText(ExpressionTree part) {
        TypeMirror type = trees.getTypeMirror(new TreePath(getCurrentPath(), part));
        return type != null && type.toString().equals("java.lang.String");
    }

    // ---- calls

    @Override
    public Void visitMethodInvocation(MethodInvocationTree node, Void nothing) {
        called(trees.getElement(new TreePath(getCurrentPath(), node.getMethodSelect())));
        return super.visitMethodInvocation(node, nothing);
    }

    @Override
    public Void visitNewClass(NewClassTree node, Void nothing) {
        rule(2, node.getClassBody() == null, "no anonymous class");
        called(trees.getElement(getCurrentPath()));
        return super.visitNewClass(node, nothing);
    }

    private void called(Element method) {
        String owner = method.getEnclosingElement().getSimpleName().toString();
        String name = owner + "." + method.getSimpleName();
        boolean library = LIBRARY.contains(name) || name.equals("Object.<init>") || EXCEPTIONS.contains(owner);
        rule(4, library || ownClasses.contains(owner), "the library's " + name);
        calls.computeIfAbsent(methodAround(), m -> new HashSet<>()).add(method);
    }

    /** The method that the present path stands in; the class itself for what a field begins with. */
    private Element methodAround() {
        TreePath path = getCurrentPath();
        while (!(path.getLeaf() instanceof MethodTree) && !(path.getLeaf() instanceof ClassTree)) {
            path = path.getParentPath();
        }
        return trees.getElement(path);
    }

    /** Counts the public method as the first level, and a call of the library as one level. */
    private void rule11CallsGoAtMostEightDeep() {
        for (Element method : calls.keySet()) {
            if (method.getModifiers().contains(Modifier.PUBLIC)) {
                int depth = depthOf(method, 1);
                rule(11, depth <= 8, method + " goes " + depth + " deep");
            }
        }
    }

    // A method that calls itself, or by others, comes to a depth of 20 and so is found too.
    private int depthOf(Element method, int level) {
        int deepest = level;
        if (level < 20) {
            for (Element next : calls.getOrDefault(method, Set.of())) {
                deepest = Math.max(deepest, depthOf(next, level + 1));
            }
        }
        return deepest;
    }
}

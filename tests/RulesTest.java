import com.sun.source.tree.*;
import com.sun.source.util.JavacTask;
import com.sun.source.util.TreePath;
import com.sun.source.util.TreePathScanner;
import com.sun.source.util.Trees;
import java.io.IOException;
import java.nio.file.Path;
import java.util.List;
import java.util.Map;
import java.util.Set;
import java.util.TreeMap;
import java.util.TreeSet;
import javax.lang.model.element.Element;
import javax.lang.model.element.ElementKind;
import javax.lang.model.element.Modifier;
import javax.lang.model.type.ArrayType;
import javax.lang.model.type.TypeKind;
import javax.lang.model.type.TypeMirror;
import javax.tools.JavaCompiler;
import javax.tools.StandardJavaFileManager;
import javax.tools.ToolProvider;

/** The rules of LANGUAGE.md, by what the compiler reads out of the program. */
public final class RulesTest extends TreePathScanner<Void, Void> {
    private static final Check c = new Check();
    private static final Set<String> OWN = new TreeSet<>();
    private static final Map<String, Set<String>> LIBRARY = Map.of(
        "java.lang.String", Set.of("length", "charAt", "isEmpty", "equals", "indexOf", "substring", "toCharArray"),
        "java.lang.StringBuilder", Set.of("append", "charAt", "setCharAt", "setLength", "deleteCharAt", "reverse", "length",
            "toString"),
        "java.util.List", Set.of("add", "get", "set", "remove", "size", "isEmpty", "clear", "of"),
        "java.util.ArrayList", Set.of("add", "get", "set", "remove", "size", "isEmpty", "clear"),
        "java.lang.Integer", Set.of("compare", "max", "min", "bitCount", "numberOfTrailingZeros"),
        "java.lang.Long", Set.of("compare", "max", "min", "bitCount"),
        "java.lang.Math", Set.of("max", "min", "abs", "floorDiv", "floorMod"),
        "java.lang.System", Set.of("arraycopy"),
        "java.util.Arrays", Set.of("copyOf", "copyOfRange", "fill"));

    private final Trees trees;
    private final CompilationUnitTree unit;
    private final Map<String, Set<String>> calls = new TreeMap<>();
    private String method = "";
    private boolean making;

    private RulesTest(Trees trees, CompilationUnitTree unit) {
        this.trees = trees;
        this.unit = unit;
    }

    public static void main(String[] args) throws IOException {
        JavaCompiler compiler = ToolProvider.getSystemJavaCompiler();
        try (StandardJavaFileManager files = compiler.getStandardFileManager(null, null, null)) {
            JavacTask task = (JavacTask) compiler.getTask(null, files, null, List.of("-proc:none"), null,
                files.getJavaFileObjects(Path.of("src/main/java/OwnsLift.java")));
            CompilationUnitTree unit = task.parse().iterator().next();
            task.analyze();
            RulesTest rules = new RulesTest(Trees.instance(task), unit);
            rules.scan(unit, null);
            rules.callsGoEightDeepAtMost();
        }
        c.due("11: classes", Math.max(13, OWN.size()), 13);
        c.end("RulesTest");
    }

    private void holds(String rule, Tree at, boolean so) {
        long line = unit.getLineMap().getLineNumber(trees.getSourcePositions().getStartPosition(unit, at));
        c.due(rule + ", line " + line, so ? "kept" : "broken", "kept");
    }

    private Element element() {
        return trees.getElement(getCurrentPath());
    }

    private TypeMirror typeOf(Tree tree) {
        return trees.getTypeMirror(new TreePath(getCurrentPath(), tree));
    }

    // ---- classes, members

    @Override
    public Void visitCompilationUnit(CompilationUnitTree tree, Void v) {
        holds("no package", tree, tree.getPackageName() == null);
        for (ImportTree i : tree.getImports()) {
            holds("4: import", i, i.getQualifiedIdentifier().toString().matches("java\\.util\\.(ArrayList|List|Arrays|Iterator)"));
        }
        return super.visitCompilationUnit(tree, v);
    }

    @Override
    public Void visitClass(ClassTree tree, Void v) {
        boolean top = getCurrentPath().getParentPath().getLeaf() instanceof CompilationUnitTree;
        boolean inside = getCurrentPath().getParentPath().getLeaf() instanceof ClassTree;
        Set<Modifier> flags = tree.getModifiers().getFlags();
        OWN.add(element().toString());
        holds("2: a class stands in the class or is it", tree, top || inside);
        holds("1, 2: " + tree.getSimpleName(), tree, top ? flags.contains(Modifier.PUBLIC) && flags.contains(Modifier.FINAL)
            : flags.contains(Modifier.STATIC) && !flags.contains(Modifier.PUBLIC) && !flags.contains(Modifier.PROTECTED));
        int fields = 0;
        for (Tree member : tree.getMembers()) {
            holds("5: no static block", member, !(member instanceof BlockTree));
            fields += member instanceof VariableTree
                && !((VariableTree) member).getModifiers().getFlags().contains(Modifier.STATIC) ? 1 : 0;
        }
        holds("11: twenty fields at most", tree, fields <= 20);
        return super.visitClass(tree, v);
    }

    @Override
    public Void visitVariable(VariableTree tree, Void v) {
        boolean field = getCurrentPath().getParentPath().getLeaf() instanceof ClassTree;
        boolean before = making;
        making = making || field;
        TypeMirror type = element().asType();
        holds("3: the type " + type, tree, allowed(type));
        if (field && tree.getModifiers().getFlags().contains(Modifier.STATIC)) {
            holds("5: static fields are final", tree, tree.getModifiers().getFlags().contains(Modifier.FINAL));
            holds("5: of numbers, String or rows of numbers written out", tree, type.getKind().isPrimitive()
                || type.toString().equals("java.lang.String")
                || type.getKind() == TypeKind.ARRAY && tree.getInitializer() instanceof NewArrayTree
                    && ((NewArrayTree) tree.getInitializer()).getInitializers() != null);
        }
        super.visitVariable(tree, v);
        making = before;
        return null;
    }

    private static boolean allowed(TypeMirror type) {
        if (type.getKind() == TypeKind.ARRAY) {
            TypeMirror of = ((ArrayType) type).getComponentType();
            return of.getKind() == TypeKind.ARRAY ? ((ArrayType) of).getComponentType().getKind().isPrimitive() : allowed(of);
        }
        String name = type.toString().replaceAll("<.*", "");
        return type.getKind().isPrimitive() || name.equals("java.lang.String") || name.equals("java.lang.StringBuilder")
            || name.equals("java.lang.Integer") || name.equals("java.util.List") || name.equals("java.util.ArrayList")
            || name.startsWith("OwnsLift.");
    }

    @Override
    public Void visitMethod(MethodTree tree, Void v) {
        String before = method;
        boolean was = making;
        method = element().getEnclosingElement() + "." + tree.getName();
        making = tree.getReturnType() == null;
        long from = line(trees.getSourcePositions().getStartPosition(unit, tree));
        long to = line(trees.getSourcePositions().getEndPosition(unit, tree));
        holds("11: a method of " + (to - from + 1) + " lines", tree, to - from < 60);
        holds("11: seven parameters at most", tree, tree.getParameters().size() <= 7);
        holds("6: no exceptions", tree, tree.getThrows().isEmpty());
        holds("6: " + tree.getName(), tree, !Set.of("equals", "hashCode", "toString").contains(tree.getName().toString()));
        calls.computeIfAbsent(method, m -> new TreeSet<>());
        super.visitMethod(tree, v);
        method = before;
        making = was;
        return null;
    }

    private long line(long position) {
        return unit.getLineMap().getLineNumber(position);
    }

    // ---- what stands in the methods

    @Override
    public Void visitMethodInvocation(MethodInvocationTree tree, Void v) {
        Element called = trees.getElement(getCurrentPath());
        String owner = called.getEnclosingElement().toString().replaceAll("<.*", "");
        if (owner.startsWith("OwnsLift")) {
            calls.get(method).add(owner + "." + called.getSimpleName());
        } else if (!called.getSimpleName().contentEquals("<init>")) {
            holds("4: " + owner + "." + called.getSimpleName(), tree, called.getSimpleName().contentEquals("clone")
                || LIBRARY.getOrDefault(owner, Set.of()).contains(called.getSimpleName().toString()));
        }
        return super.visitMethodInvocation(tree, v);
    }

    @Override
    public Void visitNewClass(NewClassTree tree, Void v) {
        holds("2: no class without a name", tree, tree.getClassBody() == null);
        holds("12: objects are made with the object alone", tree, making);
        return super.visitNewClass(tree, v);
    }

    @Override
    public Void visitNewArray(NewArrayTree tree, Void v) {
        holds("12: rows are made with the object alone", tree, making);
        return super.visitNewArray(tree, v);
    }

    @Override
    public Void visitBinary(BinaryTree tree, Void v) {
        TypeMirror left = typeOf(tree.getLeftOperand());
        TypeMirror right = typeOf(tree.getRightOperand());
        boolean text = left.toString().equals("java.lang.String") || right.toString().equals("java.lang.String");
        holds("6, 10: no text in " + tree.getKind(), tree, !text);
        boolean boxed = left.toString().equals("java.lang.Integer") && right.toString().equals("java.lang.Integer");
        holds("6: no two Integers in " + tree.getKind(), tree, !boxed);
        return super.visitBinary(tree, v);
    }

    @Override
    public Void visitTypeCast(TypeCastTree tree, Void v) {
        holds("6: casts among numbers alone", tree, typeOf(tree.getType()).getKind().isPrimitive());
        return super.visitTypeCast(tree, v);
    }

    @Override
    public Void visitIdentifier(IdentifierTree tree, Void v) {
        Element e = element();
        if (e != null && e.getKind() == ElementKind.CLASS) {
            String name = e.toString();
            holds("4: " + name, tree, name.startsWith("OwnsLift") || LIBRARY.containsKey(name));
        }
        if (e != null && e.getKind() == ElementKind.FIELD && e.getModifiers().contains(Modifier.STATIC)
                && e.asType().getKind() == TypeKind.ARRAY) {
            holds("5: " + e + " is only looked at", tree, onlyLookedAt());
        }
        return super.visitIdentifier(tree, v);
    }

    /** The row that stands here is asked for an element, and that is not set. */
    private boolean onlyLookedAt() {
        TreePath above = getCurrentPath().getParentPath();
        if (!(above.getLeaf() instanceof ArrayAccessTree)
                || ((ArrayAccessTree) above.getLeaf()).getExpression() != getCurrentPath().getLeaf()) {
            return false;
        }
        Tree user = above.getParentPath().getLeaf();
        return !(user instanceof AssignmentTree && ((AssignmentTree) user).getVariable() == above.getLeaf())
            && !(user instanceof CompoundAssignmentTree && ((CompoundAssignmentTree) user).getVariable() == above.getLeaf())
            && !Set.of(Tree.Kind.PREFIX_INCREMENT, Tree.Kind.PREFIX_DECREMENT, Tree.Kind.POSTFIX_INCREMENT,
                Tree.Kind.POSTFIX_DECREMENT).contains(user.getKind());
    }

    @Override
    public Void visitLiteral(LiteralTree tree, Void v) {
        if (tree.getValue() instanceof String) {
            boolean plain = ((String) tree.getValue()).chars().allMatch(sign -> sign >= 1 && sign <= 127);
            holds("4: the signs of a text", tree, plain);
        }
        return super.visitLiteral(tree, v);
    }

    @Override
    public Void visitForLoop(ForLoopTree tree, Void v) {
        holds("9: a loop with an end", tree, tree.getCondition() != null && !(tree.getCondition() instanceof LiteralTree));
        return super.visitForLoop(tree, v);
    }

    @Override
    public Void visitWhileLoop(WhileLoopTree tree, Void v) {
        holds("9: a loop with a bound", tree, tree.getCondition().toString().matches("(?s).*[<>].*"));
        return super.visitWhileLoop(tree, v);
    }

    @Override
    public Void visitDoWhileLoop(DoWhileLoopTree tree, Void v) {
        holds("9: a loop with a bound", tree, tree.getCondition().toString().matches("(?s).*[<>].*"));
        return super.visitDoWhileLoop(tree, v);
    }

    @Override
    public Void visitCompoundAssignment(CompoundAssignmentTree tree, Void v) {
        holds("10: no text is joined", tree, typeOf(tree.getVariable()).getKind().isPrimitive());
        return super.visitCompoundAssignment(tree, v);
    }

    private Void never(String what, Tree tree) {
        holds(what, tree, false);
        return null;
    }

    @Override
    public Void visitThrow(ThrowTree tree, Void v) {
        return never("6: throw", tree);
    }

    @Override
    public Void visitTry(TryTree tree, Void v) {
        return never("6: try", tree);
    }

    @Override
    public Void visitSynchronized(SynchronizedTree tree, Void v) {
        return never("6: synchronized", tree);
    }

    @Override
    public Void visitAssert(AssertTree tree, Void v) {
        return never("6: assert", tree);
    }

    @Override
    public Void visitLambdaExpression(LambdaExpressionTree tree, Void v) {
        return never("2: a lambda", tree);
    }

    @Override
    public Void visitMemberReference(MemberReferenceTree tree, Void v) {
        return never("2: a method reference", tree);
    }

    // ---- how deep calls go

    private void callsGoEightDeepAtMost() {
        for (String m : calls.keySet()) {
            int deep = deep(m, new TreeSet<>());
            c.due("11: calls from " + m + " on", Math.max(8, deep), 8);
        }
        for (String m : calls.keySet()) {
            c.due("8: recursion of " + m, reaches(m, m) ? "known" : "none",
                Set.of("OwnsLift.Reader.either", "OwnsLift.Reader.factor", "OwnsLift.Shares.deal", "OwnsLift.Acts.run")
                    .contains(m) ? "known" : "none");
        }
    }

    /** How many methods stand open at once, those of a recursion once. */
    private int deep(String m, Set<String> open) {
        int most = 0;
        Set<String> here = new TreeSet<>(open);
        here.add(m);
        for (String called : calls.getOrDefault(m, Set.of())) {
            if (!here.contains(called)) {
                most = Math.max(most, deep(called, here));
            }
        }
        return most + 1;
    }

    private boolean reaches(String from, String to) {
        Set<String> seen = new TreeSet<>();
        Set<String> next = new TreeSet<>(calls.getOrDefault(from, Set.of()));
        while (!next.isEmpty()) {
            String m = next.iterator().next();
            next.remove(m);
            if (seen.add(m)) {
                next.addAll(calls.getOrDefault(m, Set.of()));
            }
        }
        return seen.contains(to);
    }
}

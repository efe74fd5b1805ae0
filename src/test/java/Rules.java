import com.sun.source.tree.AssertTree;
import com.sun.source.tree.BinaryTree;
import com.sun.source.tree.BlockTree;
import com.sun.source.tree.CatchTree;
import com.sun.source.tree.ClassTree;
import com.sun.source.tree.CompilationUnitTree;
import com.sun.source.tree.CompoundAssignmentTree;
import com.sun.source.tree.ConditionalExpressionTree;
import com.sun.source.tree.DoWhileLoopTree;
import com.sun.source.tree.ExpressionTree;
import com.sun.source.tree.ForLoopTree;
import com.sun.source.tree.ImportTree;
import com.sun.source.tree.LambdaExpressionTree;
import com.sun.source.tree.LiteralTree;
import com.sun.source.tree.MemberReferenceTree;
import com.sun.source.tree.MethodInvocationTree;
import com.sun.source.tree.MethodTree;
import com.sun.source.tree.NewArrayTree;
import com.sun.source.tree.NewClassTree;
import com.sun.source.tree.SynchronizedTree;
import com.sun.source.tree.ThrowTree;
import com.sun.source.tree.Tree;
import com.sun.source.tree.TryTree;
import com.sun.source.tree.TypeCastTree;
import com.sun.source.tree.VariableTree;
import com.sun.source.tree.WhileLoopTree;
import com.sun.source.util.JavacTask;
import com.sun.source.util.SourcePositions;
import com.sun.source.util.TreePath;
import com.sun.source.util.TreePathScanner;
import com.sun.source.util.Trees;
import java.io.IOException;
import java.net.URI;
import java.util.ArrayList;
import java.util.List;
import java.util.Map;
import java.util.Set;
import java.util.TreeMap;
import java.util.TreeSet;
import javax.lang.model.element.Element;
import javax.lang.model.element.ElementKind;
import javax.lang.model.element.Modifier;
import javax.lang.model.type.ArrayType;
import javax.lang.model.type.TypeKind;
import javax.lang.model.type.TypeMirror;
import javax.tools.JavaFileObject;
import javax.tools.SimpleJavaFileObject;
import javax.tools.ToolProvider;

/**
 * The rules of ../shared/LANGUAGE.md, looked at in the compiler's own tree of a source. In some it is stricter than they are,
 * by what EchoFolk does without: loops other than for, null, objects that are made by other methods than constructors.
 */
final class Rules extends TreePathScanner<Void, Void> {
    private static final Set<String> LIBRARY = Set.of("String.length", "String.charAt", "String.isEmpty", "String.equals", "String.indexOf",
        "String.substring", "String.toCharArray", "Math.min", "Math.max", "Math.abs", "Math.floorDiv", "Math.floorMod", "Integer.bitCount",
        "System.arraycopy", "Object.<init>");
    private static final Set<TypeKind> WHOLE = Set.of(TypeKind.INT, TypeKind.LONG, TypeKind.SHORT, TypeKind.BYTE, TypeKind.CHAR, TypeKind.BOOLEAN);
    private static final Set<TypeKind> CONSTANT_ARRAYS = Set.of(TypeKind.INT, TypeKind.LONG, TypeKind.CHAR, TypeKind.BYTE);
    private static final Set<Tree.Kind> BOUND = Set.of(Tree.Kind.LESS_THAN, Tree.Kind.LESS_THAN_EQUAL, Tree.Kind.GREATER_THAN, Tree.Kind.GREATER_THAN_EQUAL);
    private static final int MOST_LINES = 60, MOST_PARAMETERS = 7, MOST_CLASSES = 12, MOST_FIELDS = 20, MOST_DEEP = 8;

    private final List<String> broken = new ArrayList<>();
    private final Map<String, Set<String>> calls = new TreeMap<>();
    private final Set<String> hidden = new TreeSet<>();
    private final Trees trees;
    private final SourcePositions positions;
    private final CompilationUnitTree unit;
    private final String source;
    private int classes;

    private Rules(JavacTask task, CompilationUnitTree unit, String source) {
        trees = Trees.instance(task);
        positions = trees.getSourcePositions();
        this.unit = unit;
        this.source = source;
    }

    /** What of the rules a class by the name of EchoFolk breaks, each with the rule's number. */
    static List<String> brokenBy(String source) throws IOException {
        JavaFileObject file = new SimpleJavaFileObject(URI.create("string:///EchoFolk.java"), JavaFileObject.Kind.SOURCE) {
            @Override public CharSequence getCharContent(boolean ignoreErrors) {
                return source;
            }
        };
        JavacTask task = (JavacTask) ToolProvider.getSystemJavaCompiler().getTask(null, null, d -> { }, List.of("-proc:none"), null, List.of(file));
        CompilationUnitTree unit = task.parse().iterator().next();
        task.analyze();
        Rules rules = new Rules(task, unit, source);
        rules.scan(unit, null);
        rules.lookAtCalls();
        rules.must(rules.classes <= MOST_CLASSES, 11, unit, rules.classes + " classes");
        rules.must(source.chars().allMatch(c -> c < 128), 4, unit, "a sign beyond 127");
        return rules.broken;
    }

    private void must(boolean holds, int rule, Tree where, String what) {
        if (!holds) broken.add("rule " + rule + ", line " + line(positions.getStartPosition(unit, where)) + ": " + what);
    }

    private long line(long position) {
        return position < 0 ? 0 : unit.getLineMap().getLineNumber(position);
    }

    private Element element(Tree tree) {
        return trees.getElement(TreePath.getPath(unit, tree));
    }

    private boolean isOwn(Element of) {
        return of != null && trees.getPath(of) != null;
    }

    /** A method by its class and name. */
    private static String name(Element method) {
        return method.getEnclosingElement().getSimpleName() + "." + method.getSimpleName();
    }

    private MethodTree methodAround() {
        for (TreePath p = getCurrentPath(); p != null; p = p.getParentPath()) if (p.getLeaf() instanceof MethodTree m) return m;
        return null;
    }

    // ---- what is ruled out wherever it stands

    @Override public Void visitImport(ImportTree t, Void v) {
        must(false, 4, t, "an import");
        return super.visitImport(t, v);
    }

    @Override public Void visitLambdaExpression(LambdaExpressionTree t, Void v) {
        must(false, 2, t, "a lambda");
        return super.visitLambdaExpression(t, v);
    }

    @Override public Void visitMemberReference(MemberReferenceTree t, Void v) {
        must(false, 2, t, "a method reference");
        return super.visitMemberReference(t, v);
    }

    @Override public Void visitThrow(ThrowTree t, Void v) {
        must(false, 6, t, "throw");
        return super.visitThrow(t, v);
    }

    @Override public Void visitTry(TryTree t, Void v) {
        must(false, 6, t, "try");
        return super.visitTry(t, v);
    }

    @Override public Void visitCatch(CatchTree t, Void v) {
        must(false, 6, t, "catch");
        return super.visitCatch(t, v);
    }

    @Override public Void visitSynchronized(SynchronizedTree t, Void v) {
        must(false, 6, t, "synchronized");
        return super.visitSynchronized(t, v);
    }

    @Override public Void visitAssert(AssertTree t, Void v) {
        must(false, 6, t, "assert");
        return super.visitAssert(t, v);
    }

    @Override public Void visitWhileLoop(WhileLoopTree t, Void v) {
        must(false, 9, t, "while, whose end cannot be seen");
        return super.visitWhileLoop(t, v);
    }

    @Override public Void visitDoWhileLoop(DoWhileLoopTree t, Void v) {
        must(false, 9, t, "do, whose end cannot be seen");
        return super.visitDoWhileLoop(t, v);
    }

    @Override public Void visitLiteral(LiteralTree t, Void v) {
        must(t.getKind() != Tree.Kind.NULL_LITERAL, 7, t, "null");
        must(t.getKind() != Tree.Kind.DOUBLE_LITERAL && t.getKind() != Tree.Kind.FLOAT_LITERAL, 3, t, "a number that is not whole");
        return super.visitLiteral(t, v);
    }

    @Override public Void visitBlock(BlockTree t, Void v) {
        must(!t.isStatic(), 5, t, "a static initialiser");
        return super.visitBlock(t, v);
    }

    // ---- loops, divisors, casts

    /** A counter that begins in the loop's own line, is held against a bound there, and moves there alone. */
    @Override public Void visitForLoop(ForLoopTree t, Void v) {
        boolean counts = t.getInitializer().size() == 1 && t.getInitializer().get(0) instanceof VariableTree
            && t.getCondition() != null && t.getUpdate().size() == 1;
        must(counts, 9, t, "for without a counter");
        if (counts) {
            String counter = ((VariableTree) t.getInitializer().get(0)).getName().toString();
            must(bounds(t.getCondition(), counter), 9, t, "the counter has no bound");
            must(t.getUpdate().get(0).toString().matches("(?s).*\\b" + counter + "\\b.*"), 9, t, "the counter does not move");
            must(!t.getStatement().toString().matches("(?s).*\\b" + counter + " *(=[^=]|\\+\\+|--|[-+*/]=).*"), 9, t, "the counter is moved within");
        }
        return super.visitForLoop(t, v);
    }

    /** Whichever else must hold, the counter is within a bound. */
    private static boolean bounds(ExpressionTree condition, String counter) {
        if (!(condition instanceof BinaryTree b)) return false;
        if (b.getKind() == Tree.Kind.CONDITIONAL_AND) return bounds(b.getLeftOperand(), counter) || bounds(b.getRightOperand(), counter);
        return BOUND.contains(b.getKind()) && b.getLeftOperand().toString().equals(counter);
    }

    @Override public Void visitBinary(BinaryTree t, Void v) {
        if (t.getKind() == Tree.Kind.DIVIDE || t.getKind() == Tree.Kind.REMAINDER) divisor(t, t.getRightOperand());
        if (t.getKind() == Tree.Kind.EQUAL_TO || t.getKind() == Tree.Kind.NOT_EQUAL_TO) {
            TypeMirror left = trees.getTypeMirror(new TreePath(getCurrentPath(), t.getLeftOperand()));
            must(left == null || left.getKind() != TypeKind.DECLARED || !left.toString().startsWith("java."), 6, t, "== of objects of the library");
        }
        if (t.getKind() == Tree.Kind.PLUS) {
            TypeMirror sum = trees.getTypeMirror(getCurrentPath());
            must(sum == null || sum.getKind().isPrimitive(), 10, t, "texts joined by +");
        }
        return super.visitBinary(t, v);
    }

    @Override public Void visitCompoundAssignment(CompoundAssignmentTree t, Void v) {
        boolean divides = t.getKind() == Tree.Kind.DIVIDE_ASSIGNMENT || t.getKind() == Tree.Kind.REMAINDER_ASSIGNMENT;
        if (divides) divisor(t, t.getExpression());
        return super.visitCompoundAssignment(t, v);
    }

    /** A number other than 0, or a name that a ?: around the division looks at. */
    private void divisor(Tree division, ExpressionTree by) {
        if (by instanceof LiteralTree number) {
            must(!number.getValue().equals(0), 7, division, "a division by 0");
            return;
        }
        boolean looked = false;
        for (TreePath p = getCurrentPath(); p != null && !(p.getLeaf() instanceof MethodTree); p = p.getParentPath()) {
            if (p.getLeaf() instanceof ConditionalExpressionTree c) looked |= c.getCondition().toString().matches("(?s).*\\b" + by + "\\b.*");
        }
        must(looked, 7, division, "the divisor " + by + " is not looked at");
    }

    @Override public Void visitTypeCast(TypeCastTree t, Void v) {
        TypeMirror type = trees.getTypeMirror(new TreePath(getCurrentPath(), t.getType()));
        must(type != null && type.getKind().isPrimitive(), 6, t, "a cast among classes");
        return super.visitTypeCast(t, v);
    }

    // ---- what is made and called

    @Override public Void visitNewClass(NewClassTree t, Void v) {
        must(t.getClassBody() == null, 2, t, "an anonymous class");
        inConstructor(t);
        Element made = trees.getElement(getCurrentPath());
        MethodTree around = methodAround();
        if (isOwn(made) && around != null) calls.get(name(element(around))).add(name(made));
        else must(false, 4, t, "something of the library, or of a field, is made");
        return super.visitNewClass(t, v);
    }

    @Override public Void visitNewArray(NewArrayTree t, Void v) {
        if (methodAround() != null) inConstructor(t);
        return super.visitNewArray(t, v);
    }

    private void inConstructor(Tree t) {
        MethodTree around = methodAround();
        must(around != null && around.getReturnType() == null, 12, t, "something is made by a call");
    }

    @Override public Void visitMethodInvocation(MethodInvocationTree t, Void v) {
        Element called = trees.getElement(getCurrentPath());
        MethodTree around = methodAround();
        if (called == null || around == null) must(false, 4, t, "a call that is not understood");
        else calls.get(name(element(around))).add(name(called));
        must(called == null || isOwn(called) || LIBRARY.contains(name(called)), 4, t, called == null ? "" : name(called));
        return super.visitMethodInvocation(t, v);
    }

    // ---- classes, fields, methods

    @Override public Void visitClass(ClassTree t, Void v) {
        classes++;
        Element is = element(t);
        boolean outer = is.getEnclosingElement().getKind() == ElementKind.PACKAGE;
        must(outer || is.getEnclosingElement().getEnclosingElement().getKind() == ElementKind.PACKAGE, 2, t, "a class within a class within the class");
        if (outer) must(t.getSimpleName().contentEquals("EchoFolk"), 1, t, "a second class in the file");
        else must(t.getModifiers().getFlags().contains(Modifier.STATIC) && !t.getModifiers().getFlags().contains(Modifier.PUBLIC), 1, t, "a class that is not static, or public");
        long fields = t.getMembers().stream().filter(m -> m instanceof VariableTree f && !f.getModifiers().getFlags().contains(Modifier.STATIC)).count();
        must(fields <= MOST_FIELDS, 11, t, fields + " fields");
        return super.visitClass(t, v);
    }

    @Override public Void visitVariable(VariableTree t, Void v) {
        TypeMirror type = trees.getTypeMirror(getCurrentPath());
        must(isAllowed(type), 3, t, "the type " + type);
        if (t.getModifiers().getFlags().contains(Modifier.STATIC)) {
            must(t.getModifiers().getFlags().contains(Modifier.FINAL), 5, t, "a static field that is not final");
            boolean row = type instanceof ArrayType a && CONSTANT_ARRAYS.contains(a.getComponentType().getKind())
                && t.getInitializer() instanceof NewArrayTree n && n.getInitializers() != null;
            must(row || WHOLE.contains(type.getKind()) || type.toString().equals("java.lang.String"), 5, t, "a static field that is no constant");
        }
        return super.visitVariable(t, v);
    }

    private boolean isAllowed(TypeMirror type) {
        if (WHOLE.contains(type.getKind()) || type.toString().equals("java.lang.String")) return true;
        if (type instanceof ArrayType row) {
            TypeMirror of = row.getComponentType();
            return of instanceof ArrayType inner ? WHOLE.contains(inner.getComponentType().getKind()) : isAllowed(of);
        }
        return type.toString().startsWith("EchoFolk");
    }

    @Override public Void visitMethod(MethodTree t, Void v) {
        Element is = element(t);
        boolean ofTheFace = is.getEnclosingElement().getSimpleName().contentEquals("EchoFolk") && is.getModifiers().contains(Modifier.PUBLIC);
        if (!ofTheFace && t.getReturnType() != null) hidden.add(t.getName().toString());
        calls.computeIfAbsent(name(is), k -> new TreeSet<>());
        must(t.getParameters().size() <= MOST_PARAMETERS, 11, t, t.getParameters().size() + " parameters");
        long lines = line(positions.getEndPosition(unit, t)) - line(positions.getStartPosition(unit, t)) + 1;
        must(lines <= MOST_LINES, 11, t, t.getName() + " has " + lines + " lines");
        boolean ofObjects = List.of("equals", "hashCode", "toString").contains(t.getName().toString());
        must(!ofObjects, 6, t, t.getName() + " of its own");
        must(t.getThrows().isEmpty(), 6, t, "throws");
        return super.visitMethod(t, v);
    }

    // ---- who calls whom

    private void lookAtCalls() {
        for (String from : calls.keySet()) {
            boolean again = reach(from).contains(from);
            if (again) must(from.startsWith("Parser.read"), 8, unit, from + " comes back to itself");
            int deep = deepest(from);
            must(deep <= MOST_DEEP, 11, unit, from + " goes " + deep + " calls deep");
            if (from.startsWith("EchoFolk.")) {
                String itself = from.substring("EchoFolk.".length());
                if (source.contains("public int " + itself + "(")) must(!hidden.contains(itself), 1, unit, "another method is named " + itself);
            }
        }
    }

    private Set<String> reach(String from) {
        Set<String> reached = new TreeSet<>();
        List<String> open = new ArrayList<>(List.of(from));
        while (!open.isEmpty()) {
            for (String to : calls.getOrDefault(open.remove(open.size() - 1), Set.of())) if (reached.add(to)) open.add(to);
        }
        return reached;
    }

    /** The calls that stand open at once, from this one on; methods that call one another are a recursion and count once. */
    private int deepest(String from) {
        Set<String> round = new TreeSet<>(reach(from));
        round.removeIf(m -> !reach(m).contains(from));
        round.add(from);
        int most = 0;
        for (String member : round) {
            for (String to : calls.getOrDefault(member, Set.of())) if (!round.contains(to)) most = Math.max(most, deepest(to));
        }
        return 1 + most;
    }
}

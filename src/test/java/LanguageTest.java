import com.sun.source.tree.ArrayAccessTree;
import com.sun.source.tree.AssertTree;
import com.sun.source.tree.AssignmentTree;
import com.sun.source.tree.BinaryTree;
import com.sun.source.tree.BlockTree;
import com.sun.source.tree.ClassTree;
import com.sun.source.tree.CompilationUnitTree;
import com.sun.source.tree.CompoundAssignmentTree;
import com.sun.source.tree.ExpressionTree;
import com.sun.source.tree.ImportTree;
import com.sun.source.tree.InstanceOfTree;
import com.sun.source.tree.LambdaExpressionTree;
import com.sun.source.tree.MemberReferenceTree;
import com.sun.source.tree.MethodInvocationTree;
import com.sun.source.tree.MethodTree;
import com.sun.source.tree.ModifiersTree;
import com.sun.source.tree.NewArrayTree;
import com.sun.source.tree.NewClassTree;
import com.sun.source.tree.SynchronizedTree;
import com.sun.source.tree.ThrowTree;
import com.sun.source.tree.Tree;
import com.sun.source.tree.TryTree;
import com.sun.source.tree.TypeCastTree;
import com.sun.source.tree.UnaryTree;
import com.sun.source.tree.VariableTree;
import com.sun.source.util.JavacTask;
import com.sun.source.util.TreePath;
import com.sun.source.util.TreePathScanner;
import com.sun.source.util.Trees;
import java.io.IOException;
import java.nio.file.Path;
import java.util.HashMap;
import java.util.HashSet;
import java.util.Map;
import java.util.Set;
import java.util.TreeSet;
import javax.lang.model.element.Element;
import javax.lang.model.element.ElementKind;
import javax.lang.model.element.ExecutableElement;
import javax.lang.model.element.Modifier;
import javax.tools.JavaCompiler;
import javax.tools.ToolProvider;

/** The rules of ../shared/LANGUAGE.md that can be seen in the source, and that no call makes an object. */
public final class LanguageTest extends TreePathScanner<Void, Void> {
    private static final Set<String> FACE = Set.of("state", "hour", "set", "pilgrim", "give", "quarrel", "feed", "end",
        "text", "fault", "hours", "evening", "of", "shade", "book", "walk", "fewest", "turn", "halts", "told", "thief",
        "undo", "image", "look");
    private static final Set<String> LIBRARY = Set.of("java.lang.Math.max", "java.lang.Math.min", "java.lang.Math.abs",
        "java.lang.Integer.bitCount", "java.lang.System.arraycopy", "java.util.Arrays.fill", "java.lang.String.length",
        "java.lang.String.charAt", "java.lang.String.indexOf");
    /** What the class needs of the types that rule 3 leaves, beside its own classes. */
    private static final Set<String> TYPES = Set.of("int", "boolean", "int[]", "byte[]", "String");
    private static final Set<String> STATIC_TYPES = Set.of("int", "int[]", "String");
    private final Trees trees;
    private final CompilationUnitTree unit;
    private final Set<String> wrongs = new TreeSet<>();
    private final Map<String, Set<String>> calls = new HashMap<>();
    private int classes;
    private String method;

    private LanguageTest(Trees trees, CompilationUnitTree unit) {
        this.trees = trees;
        this.unit = unit;
    }

    public static void main(String[] args) throws IOException {
        JavaCompiler compiler = ToolProvider.getSystemJavaCompiler();
        var files = compiler.getStandardFileManager(null, null, null);
        var sources = files.getJavaFileObjects(Path.of("src/main/java/SevenToAShadow.java"));
        JavacTask task = (JavacTask) compiler.getTask(null, files, null, null, null, sources);
        CompilationUnitTree unit = task.parse().iterator().next();
        task.analyze();
        LanguageTest test = new LanguageTest(Trees.instance(task), unit);
        test.scan(unit, null);
        test.checkDepth();
        test.wrongs.forEach(System.out::println);
        System.out.println("LanguageTest: " + (test.wrongs.isEmpty() ? "the rules are kept" : "rules are broken"));
        System.exit(test.wrongs.isEmpty() ? 0 : 1);
    }

    private void wrong(String rule, Tree where) {
        long at = trees.getSourcePositions().getStartPosition(unit, where);
        wrongs.add("line " + unit.getLineMap().getLineNumber(at) + ": " + rule);
    }

    private boolean inFace() {
        return getCurrentPath().getParentPath().getLeaf() instanceof ClassTree c
            && c.getSimpleName().contentEquals("SevenToAShadow");
    }

    private void checkDepth() {
        for (String name : calls.keySet()) {
            int deep = depth(name, new HashSet<>());
            if (deep > 8) {
                wrongs.add("11: calls from " + name + " go " + deep + " deep");
            }
        }
        if (classes > 12) {
            wrongs.add("11: " + classes + " classes");
        }
    }

    /** Nothing calls itself in the class as it is; if anything does, it is told. */
    private int depth(String name, Set<String> open) {
        if (!open.add(name)) {
            wrongs.add("8: " + name + " calls itself");
            return 0;
        }
        int deepest = 0;
        for (String next : calls.getOrDefault(name, Set.of())) {
            deepest = Math.max(deepest, depth(next, open));
        }
        open.remove(name);
        return deepest + 1;
    }

    @Override
    public Void visitImport(ImportTree t, Void v) {
        if (!t.getQualifiedIdentifier().toString().equals("java.util.Arrays")) {
            wrong("4: an import of " + t.getQualifiedIdentifier(), t);
        }
        return super.visitImport(t, v);
    }

    @Override
    public Void visitClass(ClassTree t, Void v) {
        classes++;
        Set<Modifier> flags = t.getModifiers().getFlags();
        TreePath up = getCurrentPath().getParentPath();
        boolean top = up.getLeaf() instanceof CompilationUnitTree;
        if (top && !flags.equals(Set.of(Modifier.PUBLIC, Modifier.FINAL))) {
            wrong("1: the class is public and final", t);
        }
        if (!top && (!(up.getLeaf() instanceof ClassTree) || !flags.contains(Modifier.STATIC))) {
            wrong("2: a class inside is static and in a class", t);
        }
        long fields = t.getMembers().stream().filter(m -> m instanceof VariableTree f
            && !f.getModifiers().getFlags().contains(Modifier.STATIC)).count();
        if (fields > 20) {
            wrong("11: " + fields + " fields", t);
        }
        if (t.getMembers().stream().anyMatch(m -> m instanceof BlockTree)) {
            wrong("5: a block of initialising", t);
        }
        return super.visitClass(t, v);
    }

    @Override
    public Void visitMethod(MethodTree t, Void v) {
        boolean isPublic = t.getModifiers().getFlags().contains(Modifier.PUBLIC);
        boolean isPrivate = t.getModifiers().getFlags().contains(Modifier.PRIVATE);
        boolean isConstructor = t.getReturnType() == null;
        boolean named = FACE.contains(t.getName().toString());
        if (inFace() ? !isConstructor && isPublic != named || !isPublic && !isPrivate : isPublic || named) {
            wrong("1: " + t.getName(), t);
        }
        var positions = trees.getSourcePositions();
        long first = unit.getLineMap().getLineNumber(positions.getStartPosition(unit, t));
        long last = unit.getLineMap().getLineNumber(Math.max(0, positions.getEndPosition(unit, t)));
        if (last - first > 60) {
            wrong("11: a method of " + (last - first) + " lines", t);
        }
        if (t.getParameters().size() > 7) {
            wrong("11: more than seven parameters", t);
        }
        method = nameOf(trees.getElement(getCurrentPath()));
        calls.putIfAbsent(method, new HashSet<>());
        super.visitMethod(t, v);
        method = null;
        return null;
    }

    private static String nameOf(Element e) {
        return e.getEnclosingElement() + "." + e.getSimpleName();
    }

    @Override
    public Void visitMethodInvocation(MethodInvocationTree t, Void v) {
        Element e = trees.getElement(new TreePath(getCurrentPath(), t.getMethodSelect()));
        String name = nameOf(e);
        if (name.startsWith("SevenToAShadow")) {
            if (method != null) {
                calls.get(method).add(name);
            }
        } else if (e.getKind() == ElementKind.METHOD && !LIBRARY.contains(name)) {
            wrong("4: " + name, t);
        }
        if (method != null && e instanceof ExecutableElement && method.endsWith("<init>")
            && name.startsWith("SevenToAShadow")) {
            wrong("12: a constructor calls " + name, t);
        }
        return super.visitMethodInvocation(t, v);
    }

    @Override
    public Void visitVariable(VariableTree t, Void v) {
        ModifiersTree flags = t.getModifiers();
        boolean isField = getCurrentPath().getParentPath().getLeaf() instanceof ClassTree;
        if (isField && flags.getFlags().contains(Modifier.STATIC) && !flags.getFlags().contains(Modifier.FINAL)) {
            wrong("5: a static field that is not final", t);
        }
        if (isField && inFace() && !flags.getFlags().contains(Modifier.PRIVATE) && !t.getName().contentEquals("NONE")) {
            wrong("1: " + t.getName(), t);
        }
        checkType(t, isField && flags.getFlags().contains(Modifier.STATIC));
        return super.visitVariable(t, v);
    }

    private void checkType(VariableTree t, boolean isStatic) {
        String type = t.getType().toString();
        if (isStatic && !STATIC_TYPES.contains(type)) {
            wrong("5: a static field of type " + type, t);
        }
        if (!TYPES.contains(type) && !isOwnClass(t.getType())) {
            wrong("3: the type " + type, t);
        }
    }

    private boolean isOwnClass(Tree type) {
        Element e = trees.getElement(new TreePath(getCurrentPath(), type));
        return e != null && e.toString().startsWith("SevenToAShadow.");
    }

    private boolean isText(ExpressionTree t) {
        var type = trees.getTypeMirror(new TreePath(getCurrentPath(), t));
        return type != null && type.toString().equals("java.lang.String");
    }

    /** Rule 5: what a static array holds is never changed. */
    private void checkChanged(ExpressionTree changed) {
        if (changed instanceof ArrayAccessTree a) {
            Element e = trees.getElement(new TreePath(new TreePath(getCurrentPath(), a), a.getExpression()));
            if (e != null && e.getModifiers().contains(Modifier.STATIC)) {
                wrong("5: " + e + " is changed", changed);
            }
        }
    }

    @Override
    public Void visitAssignment(AssignmentTree t, Void v) {
        checkChanged(t.getVariable());
        return super.visitAssignment(t, v);
    }

    @Override
    public Void visitCompoundAssignment(CompoundAssignmentTree t, Void v) {
        checkChanged(t.getVariable());
        if (isText(t.getVariable())) {
            wrong("10: texts joined by +=", t);
        }
        return super.visitCompoundAssignment(t, v);
    }

    @Override
    public Void visitUnary(UnaryTree t, Void v) {
        if (t.getKind().name().endsWith("CREMENT")) {
            checkChanged(t.getExpression());
        }
        return super.visitUnary(t, v);
    }

    @Override
    public Void visitBinary(BinaryTree t, Void v) {
        if (isText(t.getLeftOperand()) || isText(t.getRightOperand())) {
            wrong(t.getKind() == Tree.Kind.PLUS ? "10: texts joined by +" : "6: texts compared by " + t.getKind(), t);
        }
        return super.visitBinary(t, v);
    }

    @Override
    public Void visitTypeCast(TypeCastTree t, Void v) {
        if (!Set.of("byte", "char").contains(t.getType().toString())) {
            wrong("7: a cast to " + t.getType() + ", which nothing here needs", t);
        }
        return super.visitTypeCast(t, v);
    }

    @Override
    public Void visitInstanceOf(InstanceOfTree t, Void v) {
        wrong("6: instanceof, which nothing here needs", t);
        return super.visitInstanceOf(t, v);
    }

    /** Everything is made by constructors and field initialisers: a run of calls takes no room. */
    private void checkMaking(Tree t) {
        if (method != null && !method.endsWith("<init>")) {
            wrong("12: something is made by " + method, t);
        }
    }

    @Override
    public Void visitNewClass(NewClassTree t, Void v) {
        checkMaking(t);
        return super.visitNewClass(t, v);
    }

    @Override
    public Void visitNewArray(NewArrayTree t, Void v) {
        checkMaking(t);
        return super.visitNewArray(t, v);
    }

    @Override
    public Void visitLambdaExpression(LambdaExpressionTree t, Void v) {
        wrong("2: a lambda", t);
        return super.visitLambdaExpression(t, v);
    }

    @Override
    public Void visitMemberReference(MemberReferenceTree t, Void v) {
        wrong("2: a method reference", t);
        return super.visitMemberReference(t, v);
    }

    @Override
    public Void visitThrow(ThrowTree t, Void v) {
        wrong("6: throw", t);
        return super.visitThrow(t, v);
    }

    @Override
    public Void visitTry(TryTree t, Void v) {
        wrong("6: try", t);
        return super.visitTry(t, v);
    }

    @Override
    public Void visitSynchronized(SynchronizedTree t, Void v) {
        wrong("6: synchronized", t);
        return super.visitSynchronized(t, v);
    }

    @Override
    public Void visitAssert(AssertTree t, Void v) {
        wrong("6: assert", t);
        return super.visitAssert(t, v);
    }
}

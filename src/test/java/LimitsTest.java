import com.sun.source.tree.*;
import com.sun.source.util.JavacTask;
import com.sun.source.util.SourcePositions;
import com.sun.source.util.TreePath;
import com.sun.source.util.TreePathScanner;
import com.sun.source.util.Trees;
import java.io.File;
import java.util.EnumSet;
import java.util.List;
import java.util.Map;
import java.util.Set;
import java.util.TreeMap;
import java.util.TreeSet;
import javax.lang.model.element.Element;
import javax.lang.model.element.ElementKind;
import javax.lang.model.element.Modifier;
import javax.lang.model.element.VariableElement;
import javax.lang.model.type.ArrayType;
import javax.lang.model.type.TypeKind;
import javax.lang.model.type.TypeMirror;
import javax.tools.JavaCompiler;
import javax.tools.StandardJavaFileManager;
import javax.tools.ToolProvider;

/**
 * The limits under "The public face", with the rules of LANGUAGE.md, as far as the source's syntax tree shows them.
 * Rule 7 (no call throws) and the ends of loops (rule 8) can't be seen there.
 */
public final class LimitsTest extends TreePathScanner<Void, Void> {
    private static final String SOURCE = "src/main/java/BiQuinary.java";

    private static final Set<Tree.Kind> RULED_OUT = EnumSet.of(
            Tree.Kind.PACKAGE, Tree.Kind.IMPORT, Tree.Kind.INTERFACE, Tree.Kind.ENUM, Tree.Kind.RECORD,
            Tree.Kind.ANNOTATION_TYPE, Tree.Kind.ANNOTATION, Tree.Kind.NEW_CLASS, Tree.Kind.NULL_LITERAL,
            Tree.Kind.THROW, Tree.Kind.TRY, Tree.Kind.CATCH, Tree.Kind.ASSERT, Tree.Kind.SYNCHRONIZED,
            Tree.Kind.INSTANCE_OF, Tree.Kind.LAMBDA_EXPRESSION, Tree.Kind.MEMBER_REFERENCE);

    private static final Set<TypeKind> NUMBERS = EnumSet.of(
            TypeKind.INT, TypeKind.LONG, TypeKind.SHORT, TypeKind.BYTE, TypeKind.CHAR, TypeKind.BOOLEAN);

    private static final int MOST_PARAMETERS = 7;
    private static final int MOST_LINES = 60;
    private static final int MOST_FIELDS = 40;
    private static final int DEEPEST_CALL = 6;

    private final Trees trees;
    private final CompilationUnitTree unit;
    private final Map<String, Set<String>> callsOf = new TreeMap<>();
    private final Set<String> publicNames = new TreeSet<>();
    private final Set<String> privateNames = new TreeSet<>();
    private int classes = 0;
    private int fields = 0;
    private String method = "";

    private LimitsTest(Trees trees, CompilationUnitTree unit) {
        this.trees = trees;
        this.unit = unit;
    }

    public static void main(String[] args) throws Exception {
        JavaCompiler compiler = ToolProvider.getSystemJavaCompiler();
        StandardJavaFileManager files = compiler.getStandardFileManager(null, null, null);
        JavacTask task = (JavacTask) compiler.getTask(null, files, null, List.of("--release", "17", "-proc:none"), null,
                files.getJavaFileObjects(new File(SOURCE)));
        CompilationUnitTree unit = task.parse().iterator().next();
        task.analyze();
        LimitsTest test = new LimitsTest(Trees.instance(task), unit);
        test.scan(unit, null);
        test.wholeClass();
        Check.end();
    }

    private void wholeClass() {
        Check.due("rule 1: number of classes", classes, 1);
        Check.due("rule 10: too many fields (1 is yes)", fields > MOST_FIELDS ? 1 : 0, 0);
        Set<String> both = new TreeSet<>(publicNames);
        both.retainAll(privateNames);
        Check.due("rule 1: private methods with a public one's name " + both, both.size(), 0);
        // Without this an empty walk would look like a pass.
        Check.due("number of public methods seen", publicNames.size(), 4);
        for (String name : callsOf.keySet()) {
            Check.due("rules 8 and 10: recursion or too deep a call from " + name + " (1 is yes)",
                    depth(name, 1) > DEEPEST_CALL ? 1 : 0, 0);
        }
    }

    /** Stops just past the limit, which a recursion reaches as well. */
    private int depth(String name, int reached) {
        int deepest = reached;
        if (reached <= DEEPEST_CALL) {
            for (String called : callsOf.getOrDefault(name, Set.of())) {
                deepest = Math.max(deepest, depth(called, reached + 1));
            }
        }
        return deepest;
    }

    @Override
    public Void scan(Tree tree, Void none) {
        if (tree != null) {
            refuseIf(RULED_OUT.contains(tree.getKind()), "ruled out: " + tree.getKind(), tree);
            if (tree instanceof ExpressionTree && getCurrentPath() != null) {
                expression(new TreePath(getCurrentPath(), tree));
            }
        }
        return super.scan(tree, none);
    }

    /** javac itself puts the call of super() into the tree, and a method's name has no type among the allowed ones. */
    private void expression(TreePath path) {
        Element element = trees.getElement(path);
        if (element != null && (element.getKind() == ElementKind.METHOD || element.getKind() == ElementKind.CONSTRUCTOR)) {
            String owner = element.getEnclosingElement().toString();
            boolean superCall = element.getKind() == ElementKind.CONSTRUCTOR && owner.equals("java.lang.Object");
            refuseIf(!superCall && !owner.equals("BiQuinary"), "rule 3: another class is called", path.getLeaf());
            return;
        }
        TypeMirror type = trees.getTypeMirror(path);
        refuseIf(type != null && !allowed(type) && type.getKind() != TypeKind.VOID, "rules 2 and 3: type " + type, path.getLeaf());
    }

    /** The class's own type is let through for "this". */
    private static boolean allowed(TypeMirror type) {
        return NUMBERS.contains(type.getKind()) || arrayOfNumbers(type) || type.toString().equals("BiQuinary");
    }

    private static boolean arrayOfNumbers(TypeMirror type) {
        return type.getKind() == TypeKind.ARRAY && NUMBERS.contains(((ArrayType) type).getComponentType().getKind());
    }

    @Override
    public Void visitClass(ClassTree tree, Void none) {
        classes++;
        for (Tree member : tree.getMembers()) {
            refuseIf(member.getKind() == Tree.Kind.BLOCK, "rule 5: an initialiser block", member);
        }
        return super.visitClass(tree, none);
    }

    @Override
    public Void visitMethod(MethodTree tree, Void none) {
        method = tree.getName().toString();
        Set<Modifier> flags = tree.getModifiers().getFlags();
        boolean hidden = flags.contains(Modifier.PRIVATE);
        boolean constructor = tree.getReturnType() == null;
        if (!constructor) {
            (hidden ? privateNames : publicNames).add(method);
            TypeKind answer = trees.getTypeMirror(new TreePath(getCurrentPath(), tree.getReturnType())).getKind();
            refuseIf(answer != TypeKind.VOID && !NUMBERS.contains(answer), "rules 2 and 4: the answer's type", tree);
        }
        refuseIf(tree.getParameters().size() > MOST_PARAMETERS, "rule 10: too many parameters", tree);
        refuseIf(lines(tree) > MOST_LINES, "rule 10: too long a method", tree);
        refuseIf(!tree.getThrows().isEmpty(), "rule 6: throws", tree);
        refuseIf(flags.contains(Modifier.SYNCHRONIZED), "rule 6: a synchronized method", tree);
        super.visitMethod(tree, none);
        method = "";
        return null;
    }

    @Override
    public Void visitVariable(VariableTree tree, Void none) {
        VariableElement variable = (VariableElement) trees.getElement(getCurrentPath());
        TypeMirror type = variable.asType();
        refuseIf(!NUMBERS.contains(type.getKind()) && !arrayOfNumbers(type), "rule 2: type " + type, tree);
        if (variable.getKind() == ElementKind.FIELD) {
            field(tree, variable, type);
        }
        return super.visitVariable(tree, none);
    }

    private void field(VariableTree tree, VariableElement variable, TypeMirror type) {
        if (variable.getModifiers().contains(Modifier.STATIC)) {
            boolean whole = type.getKind() == TypeKind.INT || type.getKind() == TypeKind.LONG;
            refuseIf(!whole || variable.getConstantValue() == null, "rule 5: not a constant of int or long", tree);
            return;
        }
        fields++;
        boolean canChange = !variable.getModifiers().contains(Modifier.FINAL);
        refuseIf(type.getKind() == TypeKind.ARRAY && canChange, "rule 4: an array field that isn't final", tree);
    }

    /** Stricter than the rule, which also lets the constructor make arrays. */
    @Override
    public Void visitNewArray(NewArrayTree tree, Void none) {
        refuseIf(!method.isEmpty(), "rule 4: an array made outside a field's initialiser", tree);
        boolean oneLength = tree.getDimensions().size() == 1 && tree.getInitializers() == null;
        refuseIf(!oneLength || length(tree.getDimensions().get(0)) < 1, "rule 4: an array's length", tree);
        return super.visitNewArray(tree, none);
    }

    /** 0 for what is neither a literal nor a constant. */
    private long length(ExpressionTree tree) {
        if (tree instanceof LiteralTree literal) {
            return ((Number) literal.getValue()).longValue();
        }
        Element element = trees.getElement(new TreePath(getCurrentPath(), tree));
        boolean constant = element instanceof VariableElement v && v.getConstantValue() instanceof Number;
        return constant ? ((Number) ((VariableElement) element).getConstantValue()).longValue() : 0;
    }

    @Override
    public Void visitMethodInvocation(MethodInvocationTree tree, Void none) {
        Element called = trees.getElement(getCurrentPath());
        if (called.getKind() == ElementKind.METHOD) {
            callsOf.computeIfAbsent(method, name -> new TreeSet<>()).add(called.getSimpleName().toString());
        }
        for (TreePath up = getCurrentPath().getParentPath(); up != null; up = up.getParentPath()) {
            refuseIf(up.getLeaf() instanceof MethodInvocationTree, "rule 10: a call inside another's arguments", tree);
        }
        return super.visitMethodInvocation(tree, none);
    }

    @Override
    public Void visitTypeCast(TypeCastTree tree, Void none) {
        TypeMirror type = trees.getTypeMirror(getCurrentPath());
        refuseIf(!NUMBERS.contains(type.getKind()), "rule 6: a cast of a reference", tree);
        return super.visitTypeCast(tree, none);
    }

    @Override
    public Void visitBinary(BinaryTree tree, Void none) {
        TypeMirror left = trees.getTypeMirror(new TreePath(getCurrentPath(), tree.getLeftOperand()));
        refuseIf(!NUMBERS.contains(left.getKind()), "rule 4: a comparison of references", tree);
        return super.visitBinary(tree, none);
    }

    private long lines(Tree tree) {
        SourcePositions positions = trees.getSourcePositions();
        LineMap map = unit.getLineMap();
        return map.getLineNumber(positions.getEndPosition(unit, tree)) - map.getLineNumber(positions.getStartPosition(unit, tree)) + 1;
    }

    private void refuseIf(boolean broken, String rule, Tree tree) {
        if (broken) {
            long line = unit.getLineMap().getLineNumber(trees.getSourcePositions().getStartPosition(unit, tree));
            Check.due(rule + ", in line " + line + ": times", 1, 0);
        }
    }
}

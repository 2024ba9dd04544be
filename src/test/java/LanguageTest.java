import com.sun.source.tree.ArrayTypeTree;
import com.sun.source.tree.AssertTree;
import com.sun.source.tree.AssignmentTree;
import com.sun.source.tree.BinaryTree;
import com.sun.source.tree.BlockTree;
import com.sun.source.tree.ClassTree;
import com.sun.source.tree.CompilationUnitTree;
import com.sun.source.tree.CompoundAssignmentTree;
import com.sun.source.tree.DoWhileLoopTree;
import com.sun.source.tree.EnhancedForLoopTree;
import com.sun.source.tree.ExpressionTree;
import com.sun.source.tree.ForLoopTree;
import com.sun.source.tree.IdentifierTree;
import com.sun.source.tree.ImportTree;
import com.sun.source.tree.LambdaExpressionTree;
import com.sun.source.tree.MemberReferenceTree;
import com.sun.source.tree.MethodInvocationTree;
import com.sun.source.tree.MethodTree;
import com.sun.source.tree.NewArrayTree;
import com.sun.source.tree.NewClassTree;
import com.sun.source.tree.SynchronizedTree;
import com.sun.source.tree.ThrowTree;
import com.sun.source.tree.Tree;
import com.sun.source.tree.TryTree;
import com.sun.source.tree.TypeCastTree;
import com.sun.source.tree.UnaryTree;
import com.sun.source.tree.VariableTree;
import com.sun.source.tree.WhileLoopTree;
import com.sun.source.util.JavacTask;
import com.sun.source.util.TreePath;
import com.sun.source.util.TreePathScanner;
import com.sun.source.util.TreeScanner;
import com.sun.source.util.Trees;
import java.io.IOException;
import java.nio.file.Files;
import java.nio.file.Path;
import java.util.HashMap;
import java.util.HashSet;
import java.util.List;
import java.util.Map;
import java.util.Set;
import java.util.TreeSet;
import javax.lang.model.element.Element;
import javax.lang.model.element.ElementKind;
import javax.lang.model.element.ExecutableElement;
import javax.lang.model.element.Modifier;
import javax.lang.model.element.TypeElement;
import javax.lang.model.element.VariableElement;
import javax.lang.model.type.ArrayType;
import javax.lang.model.type.TypeKind;
import javax.lang.model.type.TypeMirror;
import javax.tools.JavaCompiler;
import javax.tools.StandardJavaFileManager;
import javax.tools.ToolProvider;

/**
 * The rules of LANGUAGE.md by number, by javac's own reading of the class. Where a rule leaves more than the
 * class needs (doubles, while, casts, objects made in a loop), the test asks for what the class does without.
 * Rule 7 shows in no text alone: WrongInputsTest tries it out. Rule 13 comes of rule 4.
 */
public final class LanguageTest extends TreePathScanner<Void, Void> {
    private static final Check CHECK = new Check("LanguageTest");
    private static final int MOST_LINES = 60;
    private static final int MOST_PARAMETERS = 7;
    private static final int MOST_DEEP = 8;
    private static final int MOST_CLASSES = 12;
    private static final int MOST_FIELDS = 20;
    private static final Set<String> IMPORTED = Set.of("java.util.ArrayList", "java.util.Arrays", "java.util.List");
    private static final Map<String, Set<String>> LIBRARY = Map.of(
        "java.lang.String", Set.of("length", "charAt", "isEmpty", "equals", "indexOf", "substring", "toCharArray"),
        "java.lang.StringBuilder", Set.of("append", "charAt", "setCharAt", "setLength", "deleteCharAt", "reverse",
            "length", "toString"),
        "java.util.ArrayList", Set.of("add", "get", "set", "remove", "size", "isEmpty", "clear"),
        "java.util.List", Set.of("add", "get", "set", "remove", "size", "isEmpty", "clear", "of"),
        "java.lang.System", Set.of("arraycopy"),
        "java.util.Arrays", Set.of("copyOf", "copyOfRange", "fill"));
    private static final Set<String> NUMBERS = Set.of("java.lang.Math", "java.lang.Integer", "java.lang.Long");

    private final Trees trees;
    private final CompilationUnitTree unit;
    private final Set<String> face = new TreeSet<>();
    private final Map<Element, Set<Element>> calls = new HashMap<>();
    private ExecutableElement within;
    private int loops;
    private int classes;

    private LanguageTest(Trees trees, CompilationUnitTree unit) {
        this.trees = trees;
        this.unit = unit;
        for (Tree member : ((ClassTree) unit.getTypeDecls().get(0)).getMembers()) {
            if (member instanceof MethodTree m && m.getModifiers().getFlags().contains(Modifier.PUBLIC)) {
                face.add(m.getName().toString());
            }
        }
    }

    public static void main(String[] args) throws IOException {
        Path source = Path.of(args.length > 0 ? args[0] : "src/main/java/PointRings.java");
        JavaCompiler compiler = ToolProvider.getSystemJavaCompiler();
        try (StandardJavaFileManager files = compiler.getStandardFileManager(null, null, null)) {
            JavacTask task = (JavacTask) compiler.getTask(null, files, null, List.of("-proc:none"), null,
                files.getJavaFileObjects(source));
            CompilationUnitTree unit = task.parse().iterator().next();
            task.analyze();
            LanguageTest test = new LanguageTest(Trees.instance(task), unit);
            test.file(Files.readString(source));
            test.scan(unit, null);
            test.keeps(11, "some twelve classes", unit, test.classes <= MOST_CLASSES);
            test.depths();
        }
        CHECK.end();
    }

    private void keeps(int rule, String what, Tree where, boolean is) {
        long line = unit.getLineMap().getLineNumber(trees.getSourcePositions().getStartPosition(unit, where));
        CHECK.holds("rule " + rule + ", line " + line + ": " + what, is);
    }

    private void file(String text) {
        keeps(1, "no package line", unit, unit.getPackage() == null);
        keeps(1, "one class", unit, unit.getTypeDecls().size() == 1);
        keeps(3, "characters 0 to 255", unit, text.chars().allMatch(c -> c < 256));
        for (ImportTree each : unit.getImports()) {
            keeps(4, "import " + each, each, !each.isStatic() && IMPORTED.contains(each.getQualifiedIdentifier().toString()));
        }
    }

    private Element elementOf(Tree tree) {
        return trees.getElement(new TreePath(getCurrentPath(), tree));
    }

    private TypeMirror typeOf(Tree tree) {
        return trees.getTypeMirror(new TreePath(getCurrentPath(), tree));
    }

    private boolean isOwn(Element element) {
        for (Element e = element; e != null; e = e.getEnclosingElement()) {
            if (e instanceof TypeElement t && t.getQualifiedName().contentEquals("PointRings")) {
                return true;
            }
        }
        return false;
    }

    private static boolean isNamed(TypeMirror type, String... names) {
        return type != null && Set.of(names).contains(type.toString());
    }

    // ---- rules 1, 2 and 11: classes and methods

    @Override
    public Void visitClass(ClassTree tree, Void none) {
        classes++;
        Set<Modifier> flags = tree.getModifiers().getFlags();
        boolean outer = getCurrentPath().getParentPath().getLeaf() instanceof CompilationUnitTree;
        boolean inside = getCurrentPath().getParentPath().getLeaf() instanceof ClassTree;
        keeps(2, tree.getSimpleName() + " is inside the class itself", tree, outer || inside);
        if (outer) {
            keeps(1, "public and final", tree, flags.containsAll(Set.of(Modifier.PUBLIC, Modifier.FINAL)));
        } else {
            keeps(1, tree.getSimpleName() + " is no part of the face", tree,
                !flags.contains(Modifier.PUBLIC) && !flags.contains(Modifier.PROTECTED));
            keeps(2, tree.getSimpleName() + " is static", tree, flags.contains(Modifier.STATIC));
        }
        int fields = 0;
        for (Tree member : tree.getMembers()) {
            if (member instanceof VariableTree v && !v.getModifiers().getFlags().contains(Modifier.STATIC)) {
                fields++;
            }
            keeps(5, "no block of its own", member, !(member instanceof BlockTree));
        }
        keeps(11, "some twenty fields", tree, fields <= MOST_FIELDS);
        return super.visitClass(tree, none);
    }

    @Override
    public Void visitMethod(MethodTree tree, Void none) {
        within = (ExecutableElement) trees.getElement(getCurrentPath());
        calls.computeIfAbsent(within, m -> new HashSet<>());
        String name = tree.getName().toString();
        boolean made = within.getKind() == ElementKind.CONSTRUCTOR;
        if (!made && !within.getModifiers().contains(Modifier.PUBLIC)) {
            keeps(1, name + " bears no name of the face", tree, !face.contains(name));
        }
        keeps(6, name + " is none of every object's", tree, !Set.of("equals", "hashCode", "toString").contains(name));
        keeps(11, name + " takes at most seven", tree, tree.getParameters().size() <= MOST_PARAMETERS);
        keeps(11, name + " has some sixty lines", tree, linesOf(tree) <= MOST_LINES);
        if (!made) {
            keeps(3, name + " answers " + within.getReturnType(), tree,
                within.getReturnType().getKind() == TypeKind.VOID || isAllowed(within.getReturnType()));
        }
        super.visitMethod(tree, none);
        within = null;
        return null;
    }

    private long linesOf(Tree tree) {
        long start = trees.getSourcePositions().getStartPosition(unit, tree);
        long end = trees.getSourcePositions().getEndPosition(unit, tree);
        // the constructor that javac adds where none is written has no end
        return end < 0 ? 0 : unit.getLineMap().getLineNumber(end) - unit.getLineMap().getLineNumber(start) + 1;
    }

    // ---- rules 3 and 5: types and static fields

    @Override
    public Void visitVariable(VariableTree tree, Void none) {
        VariableElement element = (VariableElement) trees.getElement(getCurrentPath());
        keeps(3, tree.getName() + " is of " + element.asType(), tree, isAllowed(element.asType()));
        if (element.getKind() == ElementKind.FIELD && element.getModifiers().contains(Modifier.STATIC)) {
            keeps(5, tree.getName() + " is final", tree, element.getModifiers().contains(Modifier.FINAL));
            boolean written = tree.getInitializer() instanceof NewArrayTree a && a.getInitializers() != null
                && isNamed(element.asType(), "int[]", "long[]", "char[]", "byte[]");
            keeps(5, tree.getName() + " is a constant", tree, element.getConstantValue() != null || written);
        }
        return super.visitVariable(tree, none);
    }

    private boolean isAllowed(TypeMirror type) {
        if (type instanceof ArrayType row) {
            TypeMirror of = row.getComponentType();
            if (of instanceof ArrayType second) {
                return isWhole(second.getComponentType());
            }
            return isAllowed(of) && !isNamed(of, "java.lang.String", "java.lang.StringBuilder");
        }
        return isWhole(type) || type.getKind() == TypeKind.BOOLEAN
            || isNamed(type, "java.lang.String", "java.lang.StringBuilder") || type.toString().startsWith("PointRings.");
    }

    private static boolean isWhole(TypeMirror type) {
        return type.getKind().isPrimitive()
            && !Set.of(TypeKind.BOOLEAN, TypeKind.DOUBLE, TypeKind.FLOAT).contains(type.getKind());
    }

    @Override
    public Void visitArrayType(ArrayTypeTree tree, Void none) {
        keeps(3, "at most two dimensions", tree, !(tree.getType() instanceof ArrayTypeTree second
            && second.getType() instanceof ArrayTypeTree));
        return super.visitArrayType(tree, none);
    }

    // ---- rule 4: the library, and who calls whom

    @Override
    public Void visitMethodInvocation(MethodInvocationTree tree, Void none) {
        ExecutableElement called = (ExecutableElement) elementOf(tree.getMethodSelect());
        boolean superMade = called.getKind() == ElementKind.CONSTRUCTOR;
        keeps(4, "calls " + called.getEnclosingElement() + "." + called, tree,
            superMade || isOwn(called) || isOfTheLibrary(called));
        keeps(12, "a constructor calls no method: " + called, tree,
            superMade || within == null || within.getKind() != ElementKind.CONSTRUCTOR);
        note(called);
        return super.visitMethodInvocation(tree, none);
    }

    private void note(Element called) {
        if (within != null && isOwn(called)) {
            calls.get(within).add(called);
        }
    }

    private static boolean isOfTheLibrary(ExecutableElement called) {
        String owner = called.getEnclosingElement().toString();
        String name = called.getSimpleName().toString();
        if (NUMBERS.contains(owner)) {
            return called.getModifiers().contains(Modifier.STATIC) && !name.endsWith("Exact") && !name.equals("random")
                && called.getParameters().stream().allMatch(each -> isNamed(each.asType(), "int", "long"))
                && isNamed(called.getReturnType(), "int", "long", "boolean");
        }
        return owner.equals("Array") && name.equals("clone") || LIBRARY.getOrDefault(owner, Set.of()).contains(name);
    }

    // ---- rules 2, 6 and 10: what is not written

    @Override
    public Void visitLambdaExpression(LambdaExpressionTree tree, Void none) {
        keeps(2, "lambda", tree, false);
        return null;
    }

    @Override
    public Void visitMemberReference(MemberReferenceTree tree, Void none) {
        keeps(2, "method reference", tree, false);
        return null;
    }

    @Override
    public Void visitThrow(ThrowTree tree, Void none) {
        keeps(6, "throw", tree, false);
        return null;
    }

    @Override
    public Void visitTry(TryTree tree, Void none) {
        keeps(6, "try", tree, false);
        return null;
    }

    @Override
    public Void visitSynchronized(SynchronizedTree tree, Void none) {
        keeps(6, "synchronized", tree, false);
        return null;
    }

    @Override
    public Void visitAssert(AssertTree tree, Void none) {
        keeps(6, "assert", tree, false);
        return null;
    }

    @Override
    public Void visitTypeCast(TypeCastTree tree, Void none) {
        keeps(6, "casts are of numbers", tree, typeOf(tree.getType()).getKind().isPrimitive());
        return super.visitTypeCast(tree, none);
    }

    @Override
    public Void visitBinary(BinaryTree tree, Void none) {
        boolean texts = isNamed(typeOf(tree.getLeftOperand()), "java.lang.String", "java.lang.Integer")
            || isNamed(typeOf(tree.getRightOperand()), "java.lang.String", "java.lang.Integer");
        keeps(tree.getKind() == Tree.Kind.PLUS ? 10 : 6, tree.getKind() + " of texts", tree, !texts);
        return super.visitBinary(tree, none);
    }

    @Override
    public Void visitCompoundAssignment(CompoundAssignmentTree tree, Void none) {
        keeps(10, "+= of texts", tree, !isNamed(typeOf(tree.getVariable()), "java.lang.String"));
        return super.visitCompoundAssignment(tree, none);
    }

    // ---- rule 12: what is made, and where

    @Override
    public Void visitNewClass(NewClassTree tree, Void none) {
        keeps(2, "no class without a name", tree, tree.getClassBody() == null);
        Element maker = trees.getElement(getCurrentPath());
        keeps(4, "makes " + tree.getIdentifier(), tree, isOwn(maker)
            || Set.of("java.lang.String", "java.lang.StringBuilder", "java.util.ArrayList")
                .contains(maker.getEnclosingElement().toString()));
        keeps(12, "makes no object in a loop", tree, loops == 0);
        for (ExpressionTree given : tree.getArguments()) {
            keeps(12, "a constructor hands out nothing: " + given, given, !isPartInTheMaking(given));
        }
        note(maker);
        return super.visitNewClass(tree, none);
    }

    @Override
    public Void visitNewArray(NewArrayTree tree, Void none) {
        keeps(12, "makes no array in a loop", tree, loops == 0);
        return super.visitNewArray(tree, none);
    }

    private boolean isPartInTheMaking(ExpressionTree given) {
        Element element = elementOf(given);
        return within != null && within.getKind() == ElementKind.CONSTRUCTOR && element != null
            && element.getKind() == ElementKind.FIELD && !element.getModifiers().contains(Modifier.STATIC);
    }

    @Override
    public Void visitIdentifier(IdentifierTree tree, Void none) {
        if (tree.getName().contentEquals("this") && within != null && within.getKind() == ElementKind.CONSTRUCTOR) {
            Tree parent = getCurrentPath().getParentPath().getLeaf();
            keeps(12, "a constructor hands out nothing", tree, parent.getKind() == Tree.Kind.MEMBER_SELECT);
        }
        return super.visitIdentifier(tree, none);
    }

    // ---- rule 9: loops

    @Override
    public Void visitForLoop(ForLoopTree tree, Void none) {
        String counter = counterOf(tree);
        keeps(9, "counts up or down to a bound: for (" + tree.getCondition() + ")", tree,
            counter != null && isBounded(tree.getCondition(), counter));
        keeps(9, "leaves its counter alone", tree, counter == null || !isChanged(tree.getStatement(), counter));
        loops++;
        super.visitForLoop(tree, none);
        loops--;
        return null;
    }

    @Override
    public Void visitEnhancedForLoop(EnhancedForLoopTree tree, Void none) {
        loops++;
        super.visitEnhancedForLoop(tree, none);
        loops--;
        return null;
    }

    @Override
    public Void visitWhileLoop(WhileLoopTree tree, Void none) {
        keeps(9, "while", tree, false);
        return null;
    }

    @Override
    public Void visitDoWhileLoop(DoWhileLoopTree tree, Void none) {
        keeps(9, "do", tree, false);
        return null;
    }

    private static String counterOf(ForLoopTree tree) {
        if (tree.getUpdate().size() != 1) {
            return null;
        }
        ExpressionTree update = tree.getUpdate().get(0).getExpression();
        if (update instanceof UnaryTree step) {
            return step.getExpression().toString();
        }
        return update instanceof CompoundAssignmentTree step ? step.getVariable().toString() : null;
    }

    /** Whether the condition, or a part of it joined by &&, compares the counter by < , <= , > or >= . */
    private static boolean isBounded(ExpressionTree condition, String counter) {
        if (!(condition instanceof BinaryTree parts)) {
            return false;
        }
        if (parts.getKind() == Tree.Kind.CONDITIONAL_AND) {
            return isBounded(parts.getLeftOperand(), counter) || isBounded(parts.getRightOperand(), counter);
        }
        return Set.of(Tree.Kind.LESS_THAN, Tree.Kind.LESS_THAN_EQUAL, Tree.Kind.GREATER_THAN,
            Tree.Kind.GREATER_THAN_EQUAL).contains(parts.getKind()) && parts.getLeftOperand().toString().equals(counter);
    }

    private static boolean isChanged(Tree body, String counter) {
        Set<String> changed = new HashSet<>();
        new TreeScanner<Void, Void>() {
            @Override
            public Void visitAssignment(AssignmentTree tree, Void none) {
                changed.add(tree.getVariable().toString());
                return super.visitAssignment(tree, none);
            }

            @Override
            public Void visitCompoundAssignment(CompoundAssignmentTree tree, Void none) {
                changed.add(tree.getVariable().toString());
                return super.visitCompoundAssignment(tree, none);
            }

            @Override
            public Void visitUnary(UnaryTree tree, Void none) {
                if (Set.of(Tree.Kind.PREFIX_INCREMENT, Tree.Kind.PREFIX_DECREMENT, Tree.Kind.POSTFIX_INCREMENT,
                    Tree.Kind.POSTFIX_DECREMENT).contains(tree.getKind())) {
                    changed.add(tree.getExpression().toString());
                }
                return super.visitUnary(tree, none);
            }
        }.scan(body, null);
        return changed.contains(counter);
    }

    // ---- rules 8 and 11: how deep calls go

    private void depths() {
        Map<Element, Integer> known = new HashMap<>();
        for (Element method : calls.keySet()) {
            int deep = depthOf(method, known, new HashSet<>());
            keeps(11, method + " goes " + deep + " deep", unit, deep <= MOST_DEEP);
        }
    }

    private int depthOf(Element method, Map<Element, Integer> known, Set<Element> open) {
        if (known.containsKey(method)) {
            return known.get(method);
        }
        keeps(8, method + " does not call itself", unit, !open.contains(method));
        if (!open.add(method)) {
            return 0;
        }
        int deepest = 0;
        for (Element called : calls.getOrDefault(method, Set.of())) {
            deepest = Math.max(deepest, depthOf(called, known, open));
        }
        open.remove(method);
        known.put(method, deepest + 1);
        return deepest + 1;
    }
}

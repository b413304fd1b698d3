import com.sun.source.tree.AssertTree;
import com.sun.source.tree.BinaryTree;
import com.sun.source.tree.BlockTree;
import com.sun.source.tree.ClassTree;
import com.sun.source.tree.CompilationUnitTree;
import com.sun.source.tree.DoWhileLoopTree;
import com.sun.source.tree.ForLoopTree;
import com.sun.source.tree.ImportTree;
import com.sun.source.tree.InstanceOfTree;
import com.sun.source.tree.LambdaExpressionTree;
import com.sun.source.tree.LineMap;
import com.sun.source.tree.LiteralTree;
import com.sun.source.tree.MemberReferenceTree;
import com.sun.source.tree.MethodInvocationTree;
import com.sun.source.tree.MethodTree;
import com.sun.source.tree.NewArrayTree;
import com.sun.source.tree.NewClassTree;
import com.sun.source.tree.SynchronizedTree;
import com.sun.source.tree.ThrowTree;
import com.sun.source.tree.Tree;
import com.sun.source.tree.TryTree;
import com.sun.source.tree.TypeCastTree;
import com.sun.source.tree.VariableTree;
import com.sun.source.tree.WhileLoopTree;
import com.sun.source.util.JavacTask;
import com.sun.source.util.TreePath;
import com.sun.source.util.TreePathScanner;
import com.sun.source.util.Trees;
import java.io.IOException;
import java.net.URI;
import java.util.ArrayList;
import java.util.HashMap;
import java.util.LinkedHashSet;
import java.util.List;
import java.util.Map;
import java.util.Set;
import java.util.TreeSet;
import javax.lang.model.element.Element;
import javax.lang.model.element.ElementKind;
import javax.lang.model.element.Modifier;
import javax.lang.model.element.VariableElement;
import javax.lang.model.type.TypeKind;
import javax.lang.model.type.TypeMirror;
import javax.tools.JavaFileObject;
import javax.tools.SimpleJavaFileObject;
import javax.tools.ToolProvider;

/**
 * Reads a program as the compiler reads it and tells where it leaves the rules of LANGUAGE.md. It is stricter where the
 * program needs less than the rules leave: no exceptions, no texts that are made, no interfaces, and no object or array
 * that is made by a call.
 */
final class LanguageRules extends TreePathScanner<Void, Void> {
    static final int MOST_LINES = 60;
    static final int MOST_PARAMETERS = 7;
    static final int MOST_CLASSES = 12;
    static final int MOST_FIELDS = 20;
    static final int DEEPEST_CALL = 8;
    private static final Set<String> TYPES = Set.of("int", "long", "short", "byte", "char", "boolean", "double", "float",
        "int[]", "long[]", "short[]", "byte[]", "char[]", "boolean[]", "double[]", "float[]", "int[][]", "long[][]",
        "double[][]", "void", "java.lang.String");
    private static final Set<String> CONSTANT_TYPES = Set.of("int", "long", "boolean", "char", "java.lang.String");
    private static final Set<String> LIBRARY = Set.of("java.lang.Object.Object", "java.lang.System.arraycopy",
        "java.util.Arrays.fill", "java.lang.Math.min", "java.lang.Math.max", "java.lang.Math.abs",
        "java.lang.Integer.bitCount", "java.lang.String.length", "java.lang.String.charAt");

    private final Trees trees;
    private final CompilationUnitTree unit;
    private final List<String> complaints = new ArrayList<>();
    private final Map<Element, Set<Element>> calls = new HashMap<>();
    private final Set<String> publicMethods = new TreeSet<>();
    private int classes = 0;

    private LanguageRules(Trees trees, CompilationUnitTree unit) {
        this.trees = trees;
        this.unit = unit;
    }

    /** What leaves the rules, a line each, which begins with the number of the rule. */
    static List<String> complaints(String className, String source) throws IOException {
        JavaFileObject file = new SimpleJavaFileObject(URI.create("string:///" + className + ".java"),
            JavaFileObject.Kind.SOURCE) {
            @Override
            public CharSequence getCharContent(boolean ignoreEncodingErrors) {
                return source;
            }
        };
        List<String> errors = new ArrayList<>();
        JavacTask task = (JavacTask) ToolProvider.getSystemJavaCompiler().getTask(null, null,
            problem -> errors.add("compiler: " + problem.getMessage(null)), List.of(), null, List.of(file));
        List<String> all = new ArrayList<>();
        for (CompilationUnitTree unit : task.parse()) {
            task.analyze();
            LanguageRules rules = new LanguageRules(Trees.instance(task), unit);
            rules.scan(unit, null);
            rules.askOfTheWhole();
            all.addAll(rules.complaints);
        }
        all.addAll(errors);
        return all;
    }

    private void complain(String rule, Tree tree, String what) {
        long position = trees.getSourcePositions().getStartPosition(unit, tree);
        String line = position < 0 ? "?" : String.valueOf(unit.getLineMap().getLineNumber(position));
        complaints.add("rule " + rule + ", line " + line + ": " + what);
    }

    private Element element() {
        return trees.getElement(getCurrentPath());
    }

    private String typeOf(Tree tree) {
        TypeMirror type = trees.getTypeMirror(new TreePath(getCurrentPath(), tree));
        return type == null ? "" : type.toString();
    }

    private boolean isTopLevel(Element type) {
        return type.getEnclosingElement().getKind() == ElementKind.PACKAGE;
    }

    private static String qualified(Element method) {
        Element owner = method.getEnclosingElement();
        String name = method.getKind() == ElementKind.CONSTRUCTOR ? owner.getSimpleName().toString()
            : method.getSimpleName().toString();
        return owner + "." + name;
    }

    @Override
    public Void visitCompilationUnit(CompilationUnitTree tree, Void none) {
        if (tree.getPackageName() != null || tree.getTypeDecls().size() != 1) {
            complain("0", tree, "one class without a package");
        }
        return super.visitCompilationUnit(tree, none);
    }

    @Override
    public Void visitImport(ImportTree tree, Void none) {
        if (!Set.of("java.util.Arrays").contains(tree.getQualifiedIdentifier().toString())) {
            complain("4", tree, tree.toString().trim());
        }
        return super.visitImport(tree, none);
    }

    @Override
    public Void visitClass(ClassTree tree, Void none) {
        Element type = element();
        Set<Modifier> modifiers = type.getModifiers();
        classes++;
        if (tree.getKind() != Tree.Kind.CLASS || tree.getExtendsClause() != null || !tree.getImplementsClause().isEmpty()) {
            complain("2", tree, "a plain class is enough: " + tree.getSimpleName());
        }
        if (isTopLevel(type)) {
            if (!modifiers.equals(Set.of(Modifier.PUBLIC, Modifier.FINAL))) {
                complain("1", tree, "the class is public and final");
            }
        } else if (!modifiers.contains(Modifier.STATIC) || modifiers.contains(Modifier.PUBLIC)
            || modifiers.contains(Modifier.PROTECTED)) {
            complain("1", tree, "a class inside is private or package-visible and static: " + tree.getSimpleName());
        }
        int fields = 0;
        for (Tree member : tree.getMembers()) {
            if (member instanceof VariableTree field && !field.getModifiers().getFlags().contains(Modifier.STATIC)) {
                fields++;
            }
            if (member instanceof BlockTree) {
                complain("5", member, "a block among the members");
            }
        }
        if (fields > MOST_FIELDS) {
            complain("11", tree, fields + " fields in " + tree.getSimpleName());
        }
        return super.visitClass(tree, none);
    }

    @Override
    public Void visitMethod(MethodTree tree, Void none) {
        Element method = element();
        Set<Modifier> modifiers = method.getModifiers();
        boolean face = isTopLevel(method.getEnclosingElement());
        if (face && modifiers.contains(Modifier.PUBLIC)) {
            if (method.getKind() == ElementKind.METHOD) {
                publicMethods.add(tree.getName().toString());
            }
        } else if (face && !modifiers.contains(Modifier.PRIVATE) || modifiers.contains(Modifier.PROTECTED)) {
            complain("1", tree, "visible: " + tree.getName());
        }
        if (tree.getParameters().size() > MOST_PARAMETERS) {
            complain("11", tree, tree.getParameters().size() + " parameters of " + tree.getName());
        }
        if (!tree.getThrows().isEmpty()) {
            complain("6", tree, "throws");
        }
        LineMap lines = unit.getLineMap();
        long begin = trees.getSourcePositions().getStartPosition(unit, tree);
        long end = trees.getSourcePositions().getEndPosition(unit, tree);
        // The constructor that the compiler adds has no end in the text.
        if (end > begin && lines.getLineNumber(end) - lines.getLineNumber(begin) >= MOST_LINES) {
            complain("11", tree, "a long method: " + tree.getName());
        }
        calls.computeIfAbsent(method, m -> new LinkedHashSet<>());
        return super.visitMethod(tree, none);
    }

    @Override
    public Void visitVariable(VariableTree tree, Void none) {
        VariableElement variable = (VariableElement) element();
        TypeMirror type = variable.asType();
        boolean own = type.getKind() == TypeKind.DECLARED && !type.toString().startsWith("java.");
        if (!own && !TYPES.contains(type.toString())) {
            complain("3", tree, "of the type " + type + ": " + tree.getName());
        }
        Set<Modifier> modifiers = variable.getModifiers();
        if (modifiers.contains(Modifier.STATIC) && (!modifiers.contains(Modifier.FINAL)
            || !CONSTANT_TYPES.contains(type.toString()) || variable.getConstantValue() == null)) {
            complain("5", tree, "no constant: " + tree.getName());
        }
        boolean field = variable.getKind() == ElementKind.FIELD;
        if (field && isTopLevel(variable.getEnclosingElement()) && !modifiers.contains(Modifier.PRIVATE)
            && !modifiers.contains(Modifier.STATIC)) {
            complain("1", tree, "visible: " + tree.getName());
        }
        return super.visitVariable(tree, none);
    }

    @Override
    public Void visitMethodInvocation(MethodInvocationTree tree, Void none) {
        Element called = trees.getElement(new TreePath(getCurrentPath(), tree.getMethodSelect()));
        if (qualified(called).startsWith("java.") && !LIBRARY.contains(qualified(called))) {
            complain("4", tree, qualified(called));
        }
        if (qualified(called).startsWith("java.lang.Math.") && typeOf(tree).matches("double|float")) {
            complain("3", tree, "Math on doubles");
        }
        noteCall(called);
        return super.visitMethodInvocation(tree, none);
    }

    /** A call in the initialiser of a field belongs to no method. */
    private void noteCall(Element called) {
        for (TreePath path = getCurrentPath(); path != null; path = path.getParentPath()) {
            if (path.getLeaf() instanceof MethodTree) {
                calls.computeIfAbsent(trees.getElement(path), m -> new LinkedHashSet<>()).add(called);
                return;
            }
        }
    }

    @Override
    public Void visitNewClass(NewClassTree tree, Void none) {
        if (tree.getClassBody() != null) {
            complain("2", tree, "a class without a name");
        }
        Element made = element();
        if (qualified(made).startsWith("java.")) {
            complain("4", tree, qualified(made));
        }
        askWhetherMadeOnce(tree);
        noteCall(made);
        return super.visitNewClass(tree, none);
    }

    @Override
    public Void visitNewArray(NewArrayTree tree, Void none) {
        askWhetherMadeOnce(tree);
        return super.visitNewArray(tree, none);
    }

    private void askWhetherMadeOnce(Tree tree) {
        for (TreePath path = getCurrentPath(); path != null; path = path.getParentPath()) {
            if (path.getLeaf() instanceof ClassTree) {
                return;
            }
            if (path.getLeaf() instanceof MethodTree method) {
                if (!method.getName().contentEquals("<init>")) {
                    complain("12", tree, "made by a call: " + tree);
                }
                return;
            }
        }
    }

    @Override
    public Void visitLambdaExpression(LambdaExpressionTree tree, Void none) {
        complain("2", tree, "a lambda");
        return super.visitLambdaExpression(tree, none);
    }

    @Override
    public Void visitMemberReference(MemberReferenceTree tree, Void none) {
        complain("2", tree, "a method reference");
        return super.visitMemberReference(tree, none);
    }

    @Override
    public Void visitThrow(ThrowTree tree, Void none) {
        complain("6", tree, "no call throws");
        return super.visitThrow(tree, none);
    }

    @Override
    public Void visitTry(TryTree tree, Void none) {
        complain("6", tree, "no call catches");
        return super.visitTry(tree, none);
    }

    @Override
    public Void visitAssert(AssertTree tree, Void none) {
        complain("6", tree, "assert");
        return super.visitAssert(tree, none);
    }

    @Override
    public Void visitSynchronized(SynchronizedTree tree, Void none) {
        complain("6", tree, "synchronized");
        return super.visitSynchronized(tree, none);
    }

    @Override
    public Void visitInstanceOf(InstanceOfTree tree, Void none) {
        complain("6", tree, "no type is asked for");
        return super.visitInstanceOf(tree, none);
    }

    @Override
    public Void visitTypeCast(TypeCastTree tree, Void none) {
        if (tree.getType().getKind() != Tree.Kind.PRIMITIVE_TYPE) {
            complain("6", tree, "a cast of an object");
        }
        return super.visitTypeCast(tree, none);
    }

    @Override
    public Void visitForLoop(ForLoopTree tree, Void none) {
        if (tree.getCondition() == null || tree.getUpdate().isEmpty()) {
            complain("9", tree, "a loop without a counter and a bound");
        }
        return super.visitForLoop(tree, none);
    }

    @Override
    public Void visitWhileLoop(WhileLoopTree tree, Void none) {
        if (!tree.getCondition().toString().contains("<") && !tree.getCondition().toString().contains(">")) {
            complain("9", tree, "a loop without a bound");
        }
        return super.visitWhileLoop(tree, none);
    }

    @Override
    public Void visitDoWhileLoop(DoWhileLoopTree tree, Void none) {
        complain("9", tree, "a loop that shows its bound late");
        return super.visitDoWhileLoop(tree, none);
    }

    @Override
    public Void visitBinary(BinaryTree tree, Void none) {
        String left = typeOf(tree.getLeftOperand());
        String right = typeOf(tree.getRightOperand());
        if (tree.getKind() == Tree.Kind.PLUS && (left + right).contains("java.lang.String")) {
            complain("10", tree, "a text made by +");
        }
        if (tree.getKind() == Tree.Kind.REMAINDER && (left + " " + right).matches(".*(double|float).*")) {
            complain("3", tree, "a remainder of doubles");
        }
        boolean equality = tree.getKind() == Tree.Kind.EQUAL_TO || tree.getKind() == Tree.Kind.NOT_EQUAL_TO;
        if (equality && left.startsWith("java.")) {
            complain("6", tree, "objects compared");
        }
        return super.visitBinary(tree, none);
    }

    @Override
    public Void visitLiteral(LiteralTree tree, Void none) {
        if (tree.getValue() instanceof String text && !text.chars().allMatch(c -> c >= 1 && c <= 127)) {
            complain("4", tree, "a sign beyond 127");
        }
        return super.visitLiteral(tree, none);
    }

    private void askOfTheWhole() {
        if (classes > MOST_CLASSES) {
            complain("11", unit, classes + " classes");
        }
        for (Element method : calls.keySet()) {
            boolean inside = !publicMethods.isEmpty() && !method.getModifiers().contains(Modifier.PUBLIC);
            if (inside && publicMethods.contains(method.getSimpleName().toString())) {
                complain("1", unit, "the name of a public method: " + qualified(method));
            }
            askHowDeep(method, new ArrayList<>());
        }
    }

    /** The library's own methods count as a level, too. */
    private void askHowDeep(Element method, List<String> open) {
        if (open.contains(qualified(method))) {
            complain("8", unit, "calls itself: " + open);
            return;
        }
        open.add(qualified(method));
        if (open.size() > DEEPEST_CALL) {
            complain("11", unit, "too deep: " + open);
        } else {
            for (Element called : calls.getOrDefault(method, Set.of())) {
                askHowDeep(called, open);
            }
        }
        open.remove(open.size() - 1);
    }
}

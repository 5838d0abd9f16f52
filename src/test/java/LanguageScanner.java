import com.sun.source.tree.AssertTree;
import com.sun.source.tree.BinaryTree;
import com.sun.source.tree.BlockTree;
import com.sun.source.tree.ClassTree;
import com.sun.source.tree.CompilationUnitTree;
import com.sun.source.tree.ExpressionTree;
import com.sun.source.tree.IdentifierTree;
import com.sun.source.tree.LambdaExpressionTree;
import com.sun.source.tree.MemberReferenceTree;
import com.sun.source.tree.MemberSelectTree;
import com.sun.source.tree.MethodTree;
import com.sun.source.tree.NewArrayTree;
import com.sun.source.tree.NewClassTree;
import com.sun.source.tree.SynchronizedTree;
import com.sun.source.tree.ThrowTree;
import com.sun.source.tree.Tree;
import com.sun.source.tree.TryTree;
import com.sun.source.tree.VariableTree;
import com.sun.source.util.TreePathScanner;
import com.sun.source.util.Trees;
import java.util.HashSet;
import java.util.Map;
import java.util.Set;
import java.util.TreeMap;
import java.util.TreeSet;
import javax.lang.model.element.Element;
import javax.lang.model.element.ElementKind;
import javax.lang.model.element.Modifier;
import javax.lang.model.type.TypeMirror;

/** Goes through the text of the class, checks each thing in it, and gathers who calls whom. */
final class LanguageScanner extends TreePathScanner<Void, Void> {
    private static final Set<String> LIBRARY = Set.of("String.length", "String.charAt", "String.isEmpty", "String.equals",
        "String.indexOf", "String.substring", "String.toCharArray", "StringBuilder.append", "StringBuilder.charAt",
        "StringBuilder.setCharAt", "StringBuilder.setLength", "StringBuilder.deleteCharAt", "StringBuilder.reverse",
        "StringBuilder.length", "StringBuilder.toString", "System.arraycopy", "Arrays.copyOf", "Arrays.copyOfRange",
        "Arrays.fill");
    private static final Set<String> COUNTING = Set.of("Integer", "Long", "Math");
    private static final Set<String> THROWN = Set.of("IllegalStateException", "IllegalArgumentException",
        "IndexOutOfBoundsException", "ArithmeticException", "UnsupportedOperationException", "NoSuchElementException",
        "RuntimeException");
    private static final Set<String> CONSTANTS = Set.of("int", "long", "boolean", "char", "java.lang.String", "int[]",
        "long[]", "char[]", "byte[]");
    private static final int MOST_LINES = 60;
    private static final int MOST_PARAMETERS = 7;
    private static final int MOST_FIELDS = 20;

    final Map<String, Set<String>> calls = new TreeMap<>();
    final Set<String> publicNames = new HashSet<>();
    final Set<String> privateNames = new HashSet<>();
    int classes;
    private final CompilationUnitTree unit;
    private final Trees trees;
    private String className = "";
    private MethodTree method;

    LanguageScanner(CompilationUnitTree unit, Trees trees) {
        this.unit = unit;
        this.trees = trees;
    }

    @Override
    public Void visitClass(ClassTree tree, Void none) {
        String outer = className;
        className = tree.getSimpleName().toString();
        classes++;
        int fields = 0;
        for (Tree member : tree.getMembers()) {
            boolean isField = member instanceof VariableTree field && !field.getModifiers().getFlags().contains(Modifier.STATIC);
            fields += isField ? 1 : 0;
            holds(member, 5, "no static initialiser block", !(member instanceof BlockTree));
        }
        holds(tree, 11, "some twenty fields", fields <= MOST_FIELDS);
        super.visitClass(tree, none);
        className = outer;
        return null;
    }

    @Override
    public Void visitMethod(MethodTree tree, Void none) {
        String name = tree.getName().toString();
        Set<Modifier> flags = tree.getModifiers().getFlags();
        if (flags.contains(Modifier.PUBLIC)) {
            publicNames.add(name);
        } else if (!name.equals("<init>")) {
            privateNames.add(name);
        }
        calls.putIfAbsent(className + "." + name, new TreeSet<>());
        holds(tree, 11, "at most seven parameters", tree.getParameters().size() <= MOST_PARAMETERS);
        holds(tree, 11, "methods stay short", lines(tree) <= MOST_LINES);
        method = tree;
        super.visitMethod(tree, none);
        method = null;
        return null;
    }

    @Override
    public Void visitVariable(VariableTree tree, Void none) {
        Element element = trees.getElement(getCurrentPath());
        holds(tree, 3, "types", isKnown(element.asType()));
        if (element.getModifiers().contains(Modifier.STATIC)) {
            holds(tree, 5, "static fields are final", element.getModifiers().contains(Modifier.FINAL));
            holds(tree, 5, "static fields are constants", CONSTANTS.contains(element.asType().toString()));
        }
        return super.visitVariable(tree, none);
    }

    private static boolean isKnown(TypeMirror type) {
        String name = type.toString();
        String kind = name.replace("[]", "");
        boolean isOwn = kind.equals("CuckooDebt") || kind.startsWith("CuckooDebt.");
        boolean isText = kind.equals("java.lang.String") || kind.equals("java.lang.StringBuilder");
        int dimensions = (name.length() - kind.length()) / 2;
        return isOwn ? dimensions <= 1 : isText ? dimensions == 0 : kind.matches("int|long|short|byte|char|boolean|double|float") && dimensions <= 2;
    }

    @Override
    public Void visitMemberSelect(MemberSelectTree tree, Void none) {
        use(tree);
        return super.visitMemberSelect(tree, none);
    }

    @Override
    public Void visitIdentifier(IdentifierTree tree, Void none) {
        use(tree);
        return super.visitIdentifier(tree, none);
    }

    /** Rule 4: what is not of this file's own is on the list. */
    private void use(Tree tree) {
        Element element = trees.getElement(getCurrentPath());
        boolean isCall = element != null && element.getKind() == ElementKind.METHOD;
        boolean isField = element != null && element.getKind() == ElementKind.FIELD;
        if (!isCall && !isField) {
            return;
        }
        String owner = element.getEnclosingElement() == null ? "" : element.getEnclosingElement().toString();
        String name = element.getSimpleName().toString();
        String kind = owner.substring(owner.lastIndexOf('.') + 1);
        if (owner.equals("CuckooDebt") || owner.startsWith("CuckooDebt.")) {
            if (isCall && method != null) {
                calls.computeIfAbsent(className + "." + method.getName(), key -> new TreeSet<>()).add(kind + "." + name);
            }
            return;
        }
        boolean isOfArray = tree instanceof MemberSelectTree select && (name.equals("length") && isField || name.equals("clone"))
            && isArray(select.getExpression());
        boolean isCounting = COUNTING.contains(kind) && element.getModifiers().contains(Modifier.STATIC) && !name.endsWith("Exact");
        holds(tree, 4, "the library", isOfArray || isCall && (LIBRARY.contains(kind + "." + name) || isCounting));
    }

    private boolean isArray(ExpressionTree tree) {
        return typeOf(tree).endsWith("[]");
    }

    private String typeOf(Tree tree) {
        TypeMirror type = trees.getTypeMirror(com.sun.source.util.TreePath.getPath(unit, tree));
        return type == null ? "" : type.toString();
    }

    @Override
    public Void visitThrow(ThrowTree tree, Void none) {
        boolean isWritten = tree.getExpression() instanceof NewClassTree made && THROWN.contains(made.getIdentifier().toString())
            && (made.getArguments().isEmpty() || made.getArguments().size() == 1 && made.getArguments().get(0).getKind() == Tree.Kind.STRING_LITERAL);
        holds(tree, 6, "what is thrown", isWritten);
        boolean isTold = method != null && method.getModifiers().getFlags().contains(Modifier.PUBLIC)
            && method.getThrows().toString().equals("NoSuchElementException");
        holds(tree, 6, "thrown where the document says", isTold);
        return super.visitThrow(tree, none);
    }

    /** Rule 12, and the room that all calls live in: a call makes nothing but what it throws. */
    @Override
    public Void visitNewClass(NewClassTree tree, Void none) {
        boolean isThrown = getCurrentPath().getParentPath().getLeaf() instanceof ThrowTree;
        holds(tree, 12, "objects are made in constructors", isThrown || isMaking());
        return super.visitNewClass(tree, none);
    }

    @Override
    public Void visitNewArray(NewArrayTree tree, Void none) {
        holds(tree, 12, "arrays are made in constructors", isMaking());
        return super.visitNewArray(tree, none);
    }

    private boolean isMaking() {
        return method == null || method.getName().contentEquals("<init>");
    }

    @Override
    public Void visitBinary(BinaryTree tree, Void none) {
        boolean isText = typeOf(tree.getLeftOperand()).equals("java.lang.String") || typeOf(tree.getRightOperand()).equals("java.lang.String");
        holds(tree, 10, "texts are not joined by +, nor compared by ==", !isText);
        return super.visitBinary(tree, none);
    }

    @Override
    public Void visitLambdaExpression(LambdaExpressionTree tree, Void none) {
        holds(tree, 2, "no lambda", false);
        return super.visitLambdaExpression(tree, none);
    }

    @Override
    public Void visitMemberReference(MemberReferenceTree tree, Void none) {
        holds(tree, 2, "no method reference", false);
        return super.visitMemberReference(tree, none);
    }

    /** What code throws might be caught, but nothing in the class needs it. */
    @Override
    public Void visitTry(TryTree tree, Void none) {
        holds(tree, 6, "no try", false);
        return super.visitTry(tree, none);
    }

    @Override
    public Void visitSynchronized(SynchronizedTree tree, Void none) {
        holds(tree, 6, "no synchronized", false);
        return super.visitSynchronized(tree, none);
    }

    @Override
    public Void visitAssert(AssertTree tree, Void none) {
        holds(tree, 6, "no assert", false);
        return super.visitAssert(tree, none);
    }

    private long lines(Tree tree) {
        long end = trees.getSourcePositions().getEndPosition(unit, tree);
        return end < 0 ? 0 : unit.getLineMap().getLineNumber(end) - line(tree) + 1;
    }

    private long line(Tree tree) {
        long start = trees.getSourcePositions().getStartPosition(unit, tree);
        return start < 0 ? 0 : unit.getLineMap().getLineNumber(start);
    }

    private void holds(Tree tree, int rule, String what, boolean holds) {
        String text = tree.toString().strip();
        Check.due("rule " + rule + ", " + what + ", line " + line(tree) + ", " + text.substring(0, Math.min(60, text.length())).replace('\n', ' '), holds, true);
    }
}

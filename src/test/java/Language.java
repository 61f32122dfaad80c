import com.sun.source.tree.AssertTree;
import com.sun.source.tree.AssignmentTree;
import com.sun.source.tree.BinaryTree;
import com.sun.source.tree.BlockTree;
import com.sun.source.tree.CatchTree;
import com.sun.source.tree.ClassTree;
import com.sun.source.tree.CompilationUnitTree;
import com.sun.source.tree.CompoundAssignmentTree;
import com.sun.source.tree.DoWhileLoopTree;
import com.sun.source.tree.ExpressionTree;
import com.sun.source.tree.ForLoopTree;
import com.sun.source.tree.ImportTree;
import com.sun.source.tree.LambdaExpressionTree;
import com.sun.source.tree.LiteralTree;
import com.sun.source.tree.MemberReferenceTree;
import com.sun.source.tree.MethodInvocationTree;
import com.sun.source.tree.MethodTree;
import com.sun.source.tree.NewClassTree;
import com.sun.source.tree.ParenthesizedTree;
import com.sun.source.tree.SynchronizedTree;
import com.sun.source.tree.ThrowTree;
import com.sun.source.tree.Tree;
import com.sun.source.tree.TryTree;
import com.sun.source.tree.UnionTypeTree;
import com.sun.source.tree.VariableTree;
import com.sun.source.tree.WhileLoopTree;
import com.sun.source.util.JavacTask;
import com.sun.source.util.SourcePositions;
import com.sun.source.util.TreePath;
import com.sun.source.util.TreePathScanner;
import com.sun.source.util.Trees;
import java.net.URI;
import java.util.ArrayList;
import java.util.LinkedHashMap;
import java.util.LinkedHashSet;
import java.util.List;
import java.util.Map;
import java.util.Set;
import javax.lang.model.element.Element;
import javax.lang.model.element.ElementKind;
import javax.lang.model.element.ExecutableElement;
import javax.lang.model.element.Modifier;
import javax.lang.model.element.TypeElement;
import javax.lang.model.type.ArrayType;
import javax.lang.model.type.DeclaredType;
import javax.lang.model.type.TypeKind;
import javax.lang.model.type.TypeMirror;
import javax.tools.JavaFileObject;
import javax.tools.SimpleJavaFileObject;
import javax.tools.ToolProvider;

/**
 * Reads a program's text by the rules of ../shared/LANGUAGE.md, as far as a text shows them; a complaint begins with
 * its rule's number. Where a rule leaves more than the class needs (recursion, say), the narrower reading stands here:
 * it is to be widened by whoever needs more.
 */
final class Language extends TreePathScanner<Void, Void> {
    private static final Set<String> EXCEPTIONS = Set.of("IllegalStateException", "IllegalArgumentException",
        "IndexOutOfBoundsException", "ArithmeticException", "UnsupportedOperationException", "NoSuchElementException",
        "RuntimeException");
    private static final Map<String, Set<String>> LIBRARY = Map.of(
        "java.lang.String", Set.of("length", "charAt", "isEmpty", "equals", "indexOf", "substring", "toCharArray"),
        "java.lang.StringBuilder", Set.of("append", "charAt", "setCharAt", "setLength", "deleteCharAt", "reverse",
            "length", "toString"),
        "java.util.List", Set.of("add", "get", "set", "remove", "size", "isEmpty", "clear", "of"),
        "java.util.ArrayList", Set.of("add", "get", "set", "remove", "size", "isEmpty", "clear"),
        "java.lang.System", Set.of("arraycopy"),
        "java.util.Arrays", Set.of("copyOf", "copyOfRange", "fill"));
    private static final Set<String> STATIC_NUMBERS = Set.of("java.lang.Math", "java.lang.Integer", "java.lang.Long");
    private static final Set<String> LIBRARY_TYPES = Set.of("java.lang.String", "java.lang.StringBuilder",
        "java.lang.Integer", "java.util.List", "java.util.ArrayList", "java.util.Iterator", "java.lang.Iterable",
        "java.lang.Comparable");
    private static final Set<String> OF_EVERY_OBJECT = Set.of("equals", "hashCode", "toString");
    private static final Set<TypeKind> STATIC_KINDS = Set.of(TypeKind.INT, TypeKind.LONG, TypeKind.BOOLEAN, TypeKind.CHAR);
    private static final Set<TypeKind> STATIC_ROWS = Set.of(TypeKind.INT, TypeKind.LONG, TypeKind.CHAR, TypeKind.BYTE);

    private final Trees trees;
    private final CompilationUnitTree unit;
    private final List<String> complaints = new ArrayList<>();
    private final Set<String> face = new LinkedHashSet<>();
    private final Map<Element, Set<Element>> calls = new LinkedHashMap<>();
    private int classes = 0;

    private Language(Trees trees, CompilationUnitTree unit) {
        this.trees = trees;
        this.unit = unit;
    }

    static List<String> complaints(String source) throws java.io.IOException {
        JavaFileObject file = new SimpleJavaFileObject(URI.create("string:///Preformtower.java"), JavaFileObject.Kind.SOURCE) {
            @Override
            public CharSequence getCharContent(boolean ignored) {
                return source;
            }
        };
        List<String> wrong = new ArrayList<>();
        JavacTask task = (JavacTask) ToolProvider.getSystemJavaCompiler().getTask(null, null,
            told -> wrong.add("javac: " + told.getMessage(null)), List.of("--release", "17", "-proc:none"), null, List.of(file));
        CompilationUnitTree unit = task.parse().iterator().next();
        task.analyze();
        if (!wrong.isEmpty()) {
            return wrong;
        }
        Language reader = new Language(Trees.instance(task), unit);
        reader.readUnit();
        return reader.complaints;
    }

    private void complain(int rule, Tree at, String what) {
        long line = unit.getLineMap().getLineNumber(trees.getSourcePositions().getStartPosition(unit, at));
        complaints.add(rule + ": " + what + " (line " + line + ")");
    }

    private void readUnit() {
        if (unit.getPackageName() != null) {
            complain(1, unit, "a package line");
        }
        for (ImportTree line : unit.getImports()) {
            String name = line.getQualifiedIdentifier().toString();
            if (line.isStatic() || !LIBRARY.containsKey(name) && !LIBRARY_TYPES.contains(name)
                    && !name.equals("java.util.NoSuchElementException")) {
                complain(4, line, "an import of " + name);
            }
        }
        if (unit.getTypeDecls().size() != 1) {
            complain(1, unit, "more than one class outside");
        }
        for (Tree member : ((ClassTree) unit.getTypeDecls().get(0)).getMembers()) {
            if (member instanceof MethodTree method && method.getModifiers().getFlags().contains(Modifier.PUBLIC)) {
                face.add(method.getName().toString());
            }
        }
        scan(unit, null);
        if (classes > 12) {
            complain(11, unit, classes + " classes");
        }
        for (Element method : calls.keySet()) {
            int deep = depth(method, new ArrayList<>());
            if (deep > 8) {
                complain(11, trees.getTree(method), method + " goes " + deep + " calls deep");
            }
        }
    }

    private Element elementHere() {
        return trees.getElement(getCurrentPath());
    }

    private TypeMirror typeOf(Tree tree) {
        return trees.getTypeMirror(new TreePath(getCurrentPath(), tree));
    }

    private Tree around(Tree.Kind... kinds) {
        for (TreePath path = getCurrentPath().getParentPath(); path != null; path = path.getParentPath()) {
            if (List.of(kinds).contains(path.getLeaf().getKind())) {
                return path.getLeaf();
            }
        }
        return null;
    }

    private boolean isOwn(Element element) {
        return element instanceof TypeElement type && trees.getTree(type) != null;
    }

    private boolean isText(TypeMirror type) {
        return type instanceof DeclaredType && type.toString().equals("java.lang.String");
    }

    // ---- classes, fields, methods

    @Override
    public Void visitClass(ClassTree node, Void nothing) {
        classes++;
        Element element = elementHere();
        Set<Modifier> flags = element.getModifiers();
        boolean outer = getCurrentPath().getParentPath().getLeaf() == unit;
        boolean inMethod = getCurrentPath().getParentPath().getLeaf() instanceof BlockTree;
        if (outer && !(flags.contains(Modifier.PUBLIC) && flags.contains(Modifier.FINAL))) {
            complain(1, node, "the class is not public and final");
        }
        if (!outer && (flags.contains(Modifier.PUBLIC) || flags.contains(Modifier.PROTECTED))) {
            complain(1, node, "a class inside that is public or protected");
        }
        if (inMethod) {
            complain(2, node, "a local class");
        } else if (!outer && !node.getSimpleName().isEmpty() && !flags.contains(Modifier.STATIC)) {
            complain(1, node, "a class inside that is not static");
        }
        int fields = 0;
        for (Tree member : node.getMembers()) {
            if (member instanceof VariableTree field && !field.getModifiers().getFlags().contains(Modifier.STATIC)) {
                fields++;
            }
            if (member instanceof BlockTree block && block.isStatic()) {
                complain(5, block, "a static initialiser");
            }
        }
        if (fields > 20) {
            complain(11, node, fields + " fields");
        }
        return super.visitClass(node, nothing);
    }

    private boolean isInOuterClass() {
        return getCurrentPath().getParentPath().getParentPath().getLeaf() == unit;
    }

    @Override
    public Void visitVariable(VariableTree node, Void nothing) {
        Element element = elementHere();
        if (element.getKind() == ElementKind.FIELD) {
            readField(node, element);
        }
        if (element.getKind() != ElementKind.EXCEPTION_PARAMETER) {
            readType(node, element.asType());
        }
        return super.visitVariable(node, nothing);
    }

    private void readField(VariableTree node, Element field) {
        Set<Modifier> flags = field.getModifiers();
        if (isInOuterClass() && !flags.contains(Modifier.PRIVATE)) {
            complain(1, node, "a field that is not private");
        }
        if (!flags.contains(Modifier.STATIC)) {
            return;
        }
        TypeMirror type = field.asType();
        boolean isRow = type instanceof ArrayType row && (STATIC_ROWS.contains(row.getComponentType().getKind())
            || row.getComponentType() instanceof DeclaredType of && of.asElement().getKind() == ElementKind.ENUM);
        if (!flags.contains(Modifier.FINAL)) {
            complain(5, node, "a static field that is not final");
        }
        if (!STATIC_KINDS.contains(type.getKind()) && !isText(type) && !isRow) {
            complain(5, node, "a static field of " + type);
        }
    }

    private void readType(Tree at, TypeMirror type) {
        TypeMirror element = type;
        int dimensions = 0;
        while (element instanceof ArrayType row) {
            element = row.getComponentType();
            dimensions++;
        }
        boolean own = element instanceof DeclaredType of && isOwn(of.asElement());
        boolean library = element instanceof DeclaredType of
            && LIBRARY_TYPES.contains(((TypeElement) of.asElement()).getQualifiedName().toString());
        boolean plain = element.getKind().isPrimitive() || element.getKind() == TypeKind.VOID;
        if (!plain && !own && !(library && dimensions == 0) && element.getKind() != TypeKind.TYPEVAR) {
            complain(3, at, "the type " + type);
        }
        if (dimensions > 2 || dimensions == 2 && !plain) {
            complain(3, at, "an array of " + dimensions + " dimensions, " + type);
        }
    }

    @Override
    public Void visitMethod(MethodTree node, Void nothing) {
        ExecutableElement method = (ExecutableElement) elementHere();
        Set<Modifier> flags = method.getModifiers();
        String name = node.getName().toString();
        boolean made = method.getKind() == ElementKind.CONSTRUCTOR;
        calls.computeIfAbsent(method, ignored -> new LinkedHashSet<>());
        if (isInOuterClass() && !flags.contains(Modifier.PUBLIC) && !flags.contains(Modifier.PRIVATE)) {
            complain(1, node, name + " is neither public nor private");
        }
        if (!made && flags.contains(Modifier.PRIVATE) && face.contains(name)) {
            complain(1, node, name + " is private and bears the name of a public one");
        }
        if (OF_EVERY_OBJECT.contains(name)) {
            complain(6, node, name + " of an own object");
        }
        if (node.getParameters().size() > 7) {
            complain(11, node, name + " takes more than seven parameters");
        }
        if (lines(node) > 60) {
            complain(11, node, name + " has " + lines(node) + " lines");
        }
        if (!made) {
            readType(node, method.getReturnType());
        }
        return super.visitMethod(node, nothing);
    }

    private long lines(Tree tree) {
        SourcePositions positions = trees.getSourcePositions();
        return unit.getLineMap().getLineNumber(positions.getEndPosition(unit, tree))
            - unit.getLineMap().getLineNumber(positions.getStartPosition(unit, tree)) + 1;
    }

    private int depth(Element method, List<Element> open) {
        if (open.contains(method)) {
            complain(8, trees.getTree(method), method + " calls itself: who carries its depth?");
            return 0;
        }
        open.add(method);
        int deepest = 0;
        for (Element called : calls.getOrDefault(method, Set.of())) {
            deepest = Math.max(deepest, depth(called, open));
        }
        open.remove(method);
        return deepest + 1;
    }

    // ---- what a method does

    @Override
    public Void visitMethodInvocation(MethodInvocationTree node, Void nothing) {
        ExecutableElement called = (ExecutableElement) elementHere();
        TypeElement owner = (TypeElement) called.getEnclosingElement();
        String name = called.getSimpleName().toString();
        String of = owner.getQualifiedName().toString();
        if (isOwn(owner)) {
            TreePath path = getCurrentPath();
            while (path != null && !(path.getLeaf() instanceof MethodTree)) {
                path = path.getParentPath();
            }
            if (path != null) {
                calls.computeIfAbsent(trees.getElement(path), ignored -> new LinkedHashSet<>()).add(called);
            }
        } else if (STATIC_NUMBERS.contains(of)) {
            readStaticOfNumbers(node, called);
        } else if (!name.equals("<init>") && !isCloneOfArray(node, name)
                && !LIBRARY.getOrDefault(of, Set.of()).contains(name)) {
            complain(4, node, "a call of " + of + "." + name);
        }
        return super.visitMethodInvocation(node, nothing);
    }

    private boolean isCloneOfArray(MethodInvocationTree node, String name) {
        return name.equals("clone") && node.getArguments().isEmpty();
    }

    private void readStaticOfNumbers(Tree node, ExecutableElement called) {
        boolean whole = called.getModifiers().contains(Modifier.STATIC);
        for (var parameter : called.getParameters()) {
            TypeKind kind = parameter.asType().getKind();
            whole &= kind == TypeKind.INT || kind == TypeKind.LONG;
        }
        if (!whole) {
            complain(3, node, called + " over what is not int or long");
        }
        if (called.getSimpleName().toString().endsWith("Exact")) {
            complain(4, node, "a call of " + called);
        }
    }

    @Override
    public Void visitLambdaExpression(LambdaExpressionTree node, Void nothing) {
        complain(2, node, "a lambda");
        return super.visitLambdaExpression(node, nothing);
    }

    @Override
    public Void visitMemberReference(MemberReferenceTree node, Void nothing) {
        complain(2, node, "a method reference");
        return super.visitMemberReference(node, nothing);
    }

    @Override
    public Void visitLiteral(LiteralTree node, Void nothing) {
        if (node.getValue() instanceof String text && !text.chars().allMatch(c -> c >= 1 && c <= 127)
                || node.getValue() instanceof Character sign && sign > 255) {
            complain(4, node, "a sign that is not 1 to 127");
        }
        return super.visitLiteral(node, nothing);
    }

    @Override
    public Void visitThrow(ThrowTree node, Void nothing) {
        if (!(node.getExpression() instanceof NewClassTree made) || !EXCEPTIONS.contains(made.getIdentifier().toString())
                || made.getArguments().size() > 1
                || made.getArguments().size() == 1 && made.getArguments().get(0).getKind() != Tree.Kind.STRING_LITERAL) {
            complain(6, node, "throw of what is not new E() or new E(\"a written text\")");
        }
        if (around(Tree.Kind.METHOD) instanceof MethodTree method && method.getReturnType() == null) {
            complain(6, node, "a throw in a constructor");
        }
        return super.visitThrow(node, nothing);
    }

    @Override
    public Void visitTry(TryTree node, Void nothing) {
        if (node.getFinallyBlock() != null || !node.getResources().isEmpty()) {
            complain(6, node, "finally, or try with resources");
        }
        boolean[] throwsToo = {false};
        new com.sun.source.util.TreeScanner<Void, Void>() {
            @Override
            public Void visitThrow(ThrowTree inside, Void ignored) {
                throwsToo[0] = true;
                return null;
            }
        }.scan(around(Tree.Kind.METHOD), null);
        if (throwsToo[0]) {
            complain(6, node, "try and throw in the same method");
        }
        return super.visitTry(node, nothing);
    }

    @Override
    public Void visitCatch(CatchTree node, Void nothing) {
        Tree type = node.getParameter().getType();
        List<? extends Tree> kinds = type instanceof UnionTypeTree union ? union.getTypeAlternatives() : List.of(type);
        for (Tree kind : kinds) {
            if (!EXCEPTIONS.contains(kind.toString())) {
                complain(6, node, "a catch of " + kind);
            }
        }
        return super.visitCatch(node, nothing);
    }

    @Override
    public Void visitSynchronized(SynchronizedTree node, Void nothing) {
        complain(6, node, "synchronized");
        return super.visitSynchronized(node, nothing);
    }

    @Override
    public Void visitAssert(AssertTree node, Void nothing) {
        complain(6, node, "assert");
        return super.visitAssert(node, nothing);
    }

    @Override
    public Void visitBinary(BinaryTree node, Void nothing) {
        boolean texts = isText(typeOf(node.getLeftOperand())) || isText(typeOf(node.getRightOperand()));
        boolean broken = isBroken(typeOf(node.getLeftOperand())) || isBroken(typeOf(node.getRightOperand()));
        switch (node.getKind()) {
            case PLUS:
                if (texts) {
                    complain(10, node, "texts joined by +");
                }
                break;
            case EQUAL_TO: case NOT_EQUAL_TO:
                if (texts && node.getRightOperand().getKind() != Tree.Kind.NULL_LITERAL
                        && node.getLeftOperand().getKind() != Tree.Kind.NULL_LITERAL) {
                    complain(6, node, "== between texts");
                }
                break;
            case REMAINDER:
                if (broken) {
                    complain(3, node, "% of a double");
                }
                break;
            default:
        }
        return super.visitBinary(node, nothing);
    }

    private static boolean isBroken(TypeMirror type) {
        return type != null && (type.getKind() == TypeKind.DOUBLE || type.getKind() == TypeKind.FLOAT);
    }

    @Override
    public Void visitCompoundAssignment(CompoundAssignmentTree node, Void nothing) {
        if (isText(typeOf(node.getVariable()))) {
            complain(10, node, "texts joined by +=");
        }
        return super.visitCompoundAssignment(node, nothing);
    }

    @Override
    public Void visitAssignment(AssignmentTree node, Void nothing) {
        Element target = trees.getElement(new TreePath(getCurrentPath(), node.getVariable()));
        if (target != null && target.getModifiers().contains(Modifier.STATIC)) {
            complain(5, node, "a static field is changed");
        }
        return super.visitAssignment(node, nothing);
    }

    // ---- loops

    private void readLoop(Tree node, ExpressionTree condition) {
        ExpressionTree bare = condition;
        while (bare instanceof ParenthesizedTree in) {
            bare = in.getExpression();
        }
        if (bare == null || bare instanceof LiteralTree) {
            complain(9, node, "a loop whose own lines show no end");
        }
    }

    @Override
    public Void visitForLoop(ForLoopTree node, Void nothing) {
        readLoop(node, node.getCondition());
        return super.visitForLoop(node, nothing);
    }

    @Override
    public Void visitWhileLoop(WhileLoopTree node, Void nothing) {
        readLoop(node, node.getCondition());
        return super.visitWhileLoop(node, nothing);
    }

    @Override
    public Void visitDoWhileLoop(DoWhileLoopTree node, Void nothing) {
        readLoop(node, node.getCondition());
        return super.visitDoWhileLoop(node, nothing);
    }

    @Override
    public Void visitNewClass(NewClassTree node, Void nothing) {
        String name = node.getIdentifier().toString();
        boolean loop = around(Tree.Kind.FOR_LOOP, Tree.Kind.WHILE_LOOP, Tree.Kind.DO_WHILE_LOOP) != null;
        boolean made = around(Tree.Kind.METHOD) instanceof MethodTree method && method.getReturnType() == null;
        if (loop && !made && !EXCEPTIONS.contains(name)) {
            complain(12, node, "an object made in a loop, outside of a constructor");
        }
        return super.visitNewClass(node, nothing);
    }
}

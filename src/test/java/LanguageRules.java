import com.sun.source.tree.AssertTree;
import com.sun.source.tree.AssignmentTree;
import com.sun.source.tree.BinaryTree;
import com.sun.source.tree.BlockTree;
import com.sun.source.tree.CatchTree;
import com.sun.source.tree.ClassTree;
import com.sun.source.tree.CompilationUnitTree;
import com.sun.source.tree.CompoundAssignmentTree;
import com.sun.source.tree.DoWhileLoopTree;
import com.sun.source.tree.ExpressionTree;
import com.sun.source.tree.ForLoopTree;
import com.sun.source.tree.IdentifierTree;
import com.sun.source.tree.ImportTree;
import com.sun.source.tree.InstanceOfTree;
import com.sun.source.tree.LambdaExpressionTree;
import com.sun.source.tree.LiteralTree;
import com.sun.source.tree.MemberReferenceTree;
import com.sun.source.tree.MethodInvocationTree;
import com.sun.source.tree.MethodTree;
import com.sun.source.tree.NewArrayTree;
import com.sun.source.tree.NewClassTree;
import com.sun.source.tree.SynchronizedTree;
import com.sun.source.tree.ThrowTree;
import com.sun.source.tree.Tree;
import com.sun.source.tree.TryTree;
import com.sun.source.tree.TypeCastTree;
import com.sun.source.tree.UnaryTree;
import com.sun.source.tree.VariableTree;
import com.sun.source.tree.WhileLoopTree;
import com.sun.source.util.TreePath;
import com.sun.source.util.TreePathScanner;
import com.sun.source.util.TreeScanner;
import com.sun.source.util.Trees;
import java.util.HashMap;
import java.util.HashSet;
import java.util.LinkedHashSet;
import java.util.List;
import java.util.Map;
import java.util.Set;
import javax.lang.model.element.Element;
import javax.lang.model.element.ElementKind;
import javax.lang.model.element.ExecutableElement;
import javax.lang.model.element.Modifier;
import javax.lang.model.element.TypeElement;
import javax.lang.model.element.VariableElement;
import javax.lang.model.type.ArrayType;
import javax.lang.model.type.DeclaredType;
import javax.lang.model.type.TypeKind;
import javax.lang.model.type.TypeMirror;

/**
 * Goes through the class as the compiler reads it, and checks those rules of LANGUAGE.md that a
 * tree can tell; the numbers are theirs. What the rules allow and the program does not use is
 * allowed here, too. Not seen here: whether an index, a divisor or a reference was looked at, what
 * keeps a recursion low, and how many objects a run makes.
 */
final class LanguageRules extends TreePathScanner<Void, Void> {
    private static final Set<String> EXCEPTIONS = Set.of("IllegalStateException",
            "IllegalArgumentException", "IndexOutOfBoundsException", "ArithmeticException",
            "UnsupportedOperationException", "NoSuchElementException", "RuntimeException");
    private static final Set<String> LIBRARY = Set.of("String", "StringBuilder", "Integer",
            "ArrayList", "List", "Iterator", "Iterable", "Comparable");
    private static final Map<String, Set<String>> CALLS = Map.of(
            "String", Set.of("length", "charAt", "isEmpty", "equals", "indexOf", "substring",
                    "toCharArray"),
            "StringBuilder", Set.of("append", "charAt", "setCharAt", "setLength", "deleteCharAt",
                    "reverse", "length", "toString"),
            "ArrayList", Set.of("add", "get", "set", "remove", "size", "isEmpty", "clear"),
            "List", Set.of("add", "get", "set", "remove", "size", "isEmpty", "clear", "of"),
            "System", Set.of("arraycopy"),
            "Arrays", Set.of("copyOf", "copyOfRange", "fill"));
    private static final Set<String> OWN_NAMES_OUT = Set.of("equals", "hashCode", "toString");

    private final CompilationUnitTree unit;
    private final Trees trees;
    private final Map<Element, Set<Element>> calls = new HashMap<>();
    private final Set<Element> open = new LinkedHashSet<>();
    private int classes = 0;

    LanguageRules(CompilationUnitTree unit, Trees trees) {
        this.unit = unit;
        this.trees = trees;
    }

    /** Reads all, and then looks at what the methods call of one another. */
    void check() {
        scan(unit, null);
        holds(11, unit, "at most twelve classes", classes <= 12);
        Map<Element, Integer> depths = new HashMap<>();
        for (Element method : open) {
            int depth = depthOf(method, depths, new HashSet<>());
            Check.holds("rule 11: " + method + " goes at most eight deep", depth <= 8);
        }
    }

    private void holds(int rule, Tree tree, String what, boolean fine) {
        long place = trees.getSourcePositions().getStartPosition(unit, tree);
        long line = place < 0 ? 0 : unit.getLineMap().getLineNumber(place);
        Check.holds("rule " + rule + " in line " + line + ": " + what, fine);
    }

    private int depthOf(Element method, Map<Element, Integer> depths, Set<Element> standing) {
        if (depths.containsKey(method)) {
            return depths.get(method);
        }
        standing.add(method);
        int deepest = 0;
        for (Element called : calls.getOrDefault(method, Set.of())) {
            if (standing.contains(called)) {
                Check.holds("rule 8: " + called + ", called anew, is not of the face",
                        !open.contains(called));
            } else {
                deepest = Math.max(deepest, depthOf(called, depths, standing));
            }
        }
        standing.remove(method);
        depths.put(method, deepest + 1);
        return deepest + 1;
    }

    private TypeMirror typeOf(Tree tree) {
        return trees.getTypeMirror(new TreePath(getCurrentPath(), tree));
    }

    private static String simpleName(TypeMirror type) {
        return type instanceof DeclaredType declared ? declared.asElement().getSimpleName().toString()
                : "";
    }

    private boolean isOwn(Element element) {
        return element != null && trees.getPath(element) != null;
    }

    private static boolean isText(TypeMirror type) {
        return simpleName(type).equals("String");
    }

    private static boolean isFraction(TypeMirror type) {
        return type != null && (type.getKind() == TypeKind.DOUBLE || type.getKind() == TypeKind.FLOAT);
    }

    private boolean isAllowed(TypeMirror type) {
        if (type instanceof ArrayType array) {
            TypeMirror part = array.getComponentType();
            boolean rows = part instanceof ArrayType row && row.getComponentType().getKind().isPrimitive();
            return part.getKind().isPrimitive() || rows
                    || part instanceof DeclaredType own && isOwn(own.asElement());
        }
        if (type instanceof DeclaredType declared) {
            for (TypeMirror argument : declared.getTypeArguments()) {
                boolean own = argument instanceof DeclaredType part && isOwn(part.asElement());
                if (!own && argument.getKind() != TypeKind.TYPEVAR
                        && !simpleName(argument).equals("Integer")) {
                    return false;
                }
            }
            return isOwn(declared.asElement()) || LIBRARY.contains(simpleName(type));
        }
        return type.getKind().isPrimitive() || type.getKind() == TypeKind.TYPEVAR
                || type.getKind() == TypeKind.VOID;
    }

    /** A static function of Integer, Long or Math over int and long. */
    private static boolean isReckoning(ExecutableElement called) {
        String owner = called.getEnclosingElement().getSimpleName().toString();
        boolean whole = Set.of("Integer", "Long", "Math").contains(owner)
                && called.getModifiers().contains(Modifier.STATIC)
                && Set.of(TypeKind.INT, TypeKind.LONG).contains(called.getReturnType().getKind())
                && !called.getSimpleName().toString().endsWith("Exact");
        for (VariableElement parameter : called.getParameters()) {
            whole &= Set.of(TypeKind.INT, TypeKind.LONG).contains(parameter.asType().getKind());
        }
        return whole;
    }

    /** The method, or the class, whose lines hold the place. */
    private TreePath around(Tree.Kind... kinds) {
        TreePath path = getCurrentPath().getParentPath();
        while (path != null && !List.of(kinds).contains(path.getLeaf().getKind())) {
            path = path.getParentPath();
        }
        return path;
    }

    private Element methodAround() {
        TreePath path = around(Tree.Kind.METHOD);
        return path == null ? null : trees.getElement(path);
    }

    // ---- rules 1 to 5: the face, classes, types, the library, static fields

    @Override
    public Void visitImport(ImportTree tree, Void none) {
        String name = tree.getQualifiedIdentifier().toString();
        holds(4, tree, name, Set.of("java.util.ArrayList", "java.util.List", "java.util.Arrays",
                "java.util.Iterator", "java.util.NoSuchElementException").contains(name)
                && !tree.isStatic());
        return null;
    }

    @Override
    public Void visitClass(ClassTree tree, Void none) {
        classes++;
        TypeElement element = (TypeElement) trees.getElement(getCurrentPath());
        boolean outer = element.getEnclosingElement().getKind() == ElementKind.PACKAGE;
        Set<Modifier> modifiers = element.getModifiers();
        if (outer) {
            holds(1, tree, "public and final", modifiers.containsAll(
                    Set.of(Modifier.PUBLIC, Modifier.FINAL)));
        } else {
            holds(1, tree, "private or package-visible", !modifiers.contains(Modifier.PUBLIC)
                    && !modifiers.contains(Modifier.PROTECTED));
            holds(2, tree, "no local class", tree.getSimpleName().length() == 0
                    || element.getEnclosingElement() instanceof TypeElement);
        }
        TypeMirror above = element.getSuperclass();
        holds(6, tree, "no exception of its own", !simpleName(above).endsWith("Exception")
                && !Set.of("Error", "Throwable").contains(simpleName(above)));
        int fields = 0;
        for (Tree member : tree.getMembers()) {
            holds(5, member, "no static initialiser block",
                    !(member instanceof BlockTree block && block.isStatic()));
            boolean counts = member instanceof VariableTree variable
                    && !variable.getModifiers().getFlags().contains(Modifier.STATIC);
            fields += counts ? 1 : 0;
        }
        holds(11, tree, "at most some twenty fields", fields <= 20);
        return super.visitClass(tree, none);
    }

    @Override
    public Void visitVariable(VariableTree tree, Void none) {
        Element element = trees.getElement(getCurrentPath());
        boolean caught = element.getKind() == ElementKind.EXCEPTION_PARAMETER;
        holds(3, tree, "the type of " + tree.getName(), caught || isAllowed(element.asType()));
        if (element.getKind() == ElementKind.FIELD && element.getModifiers().contains(Modifier.STATIC)) {
            holds(5, tree, tree.getName() + " is final",
                    element.getModifiers().contains(Modifier.FINAL));
            TypeMirror type = element.asType();
            boolean written = type instanceof ArrayType
                    && tree.getInitializer() instanceof NewArrayTree array
                    && array.getInitializers() != null;
            boolean values = tree.getInitializer() instanceof MethodInvocationTree call
                    && call.getMethodSelect().toString().endsWith("values");
            holds(5, tree, tree.getName() + " is a constant",
                    type.getKind().isPrimitive() || isText(type) || written || values);
        }
        return super.visitVariable(tree, none);
    }

    @Override
    public Void visitMethod(MethodTree tree, Void none) {
        ExecutableElement element = (ExecutableElement) trees.getElement(getCurrentPath());
        holds(11, tree, "at most seven parameters", tree.getParameters().size() <= 7);
        long first = trees.getSourcePositions().getStartPosition(unit, tree);
        long last = trees.getSourcePositions().getEndPosition(unit, tree);
        if (first >= 0 && last >= 0) {
            long lines = unit.getLineMap().getLineNumber(last) - unit.getLineMap().getLineNumber(first);
            holds(11, tree, tree.getName() + " has at most some sixty lines", lines < 60);
        }
        holds(6, tree, "no " + tree.getName() + " of its own",
                !OWN_NAMES_OUT.contains(tree.getName().toString()));
        holds(3, tree, "the type of " + tree.getName(), isAllowed(element.getReturnType()));
        calls.putIfAbsent(element, new LinkedHashSet<>());
        if (element.getModifiers().contains(Modifier.PUBLIC)) {
            open.add(element);
        }
        return super.visitMethod(tree, none);
    }

    @Override
    public Void visitMethodInvocation(MethodInvocationTree tree, Void none) {
        Element called = trees.getElement(getCurrentPath());
        Element method = methodAround();
        if (isOwn(called)) {
            if (method != null) {
                calls.computeIfAbsent(method, key -> new LinkedHashSet<>()).add(called);
            }
        } else {
            String owner = called.getEnclosingElement().getSimpleName().toString();
            String name = called.getSimpleName().toString();
            holds(4, tree, owner + "." + name, CALLS.getOrDefault(owner, Set.of()).contains(name)
                    || Set.of("<init>", "values", "ordinal", "clone").contains(name)
                    || isReckoning((ExecutableElement) called));
        }
        return super.visitMethodInvocation(tree, none);
    }

    @Override
    public Void visitNewClass(NewClassTree tree, Void none) {
        Element made = trees.getElement(getCurrentPath());
        TypeMirror type = trees.getTypeMirror(getCurrentPath());
        String name = simpleName(type);
        Element method = methodAround();
        if (isOwn(made) && method != null) {
            calls.computeIfAbsent(method, key -> new LinkedHashSet<>()).add(made);
        }
        boolean own = type instanceof DeclaredType declared && isOwn(declared.asElement());
        holds(4, tree, "new " + name, own || EXCEPTIONS.contains(name)
                || Set.of("String", "StringBuilder", "ArrayList").contains(name));
        return super.visitNewClass(tree, none);
    }

    @Override
    public Void visitLiteral(LiteralTree tree, Void none) {
        if (tree.getValue() instanceof String text) {
            for (int i = 0; i < text.length(); i++) {
                holds(4, tree, "a sign of a text", text.charAt(i) >= 1 && text.charAt(i) <= 127);
            }
        }
        return super.visitLiteral(tree, none);
    }

    @Override
    public Void visitLambdaExpression(LambdaExpressionTree tree, Void none) {
        holds(2, tree, "no lambda", false);
        return null;
    }

    @Override
    public Void visitMemberReference(MemberReferenceTree tree, Void none) {
        holds(2, tree, "no method reference", false);
        return null;
    }

    // ---- rule 6: exceptions, casts, comparisons

    @Override
    public Void visitThrow(ThrowTree tree, Void none) {
        boolean made = tree.getExpression() instanceof NewClassTree one
                && EXCEPTIONS.contains(one.getIdentifier().toString())
                && (one.getArguments().isEmpty() || one.getArguments().size() == 1
                && one.getArguments().get(0) instanceof LiteralTree);
        holds(6, tree, "throw new E with a written text or none", made);
        TreePath method = around(Tree.Kind.METHOD);
        holds(6, tree, "in a method that is no constructor", method != null
                && ((MethodTree) method.getLeaf()).getReturnType() != null);
        if (method != null) {
            boolean[] tries = {false};
            new TreeScanner<Void, Void>() {
                @Override
                public Void visitTry(TryTree one, Void nothing) {
                    tries[0] = true;
                    return null;
                }
            }.scan(method.getLeaf(), null);
            holds(6, tree, "in a method without try", !tries[0]);
        }
        return super.visitThrow(tree, none);
    }

    @Override
    public Void visitTry(TryTree tree, Void none) {
        holds(6, tree, "no finally", tree.getFinallyBlock() == null);
        holds(6, tree, "no resources", tree.getResources().isEmpty());
        return super.visitTry(tree, none);
    }

    @Override
    public Void visitCatch(CatchTree tree, Void none) {
        for (String name : tree.getParameter().getType().toString().split("\\s*\\|\\s*")) {
            holds(6, tree, "catch " + name, EXCEPTIONS.contains(name));
        }
        holds(6, tree, "the exception is left alone",
                !names(tree.getBlock()).contains(tree.getParameter().getName().toString()));
        return super.visitCatch(tree, none);
    }

    @Override
    public Void visitSynchronized(SynchronizedTree tree, Void none) {
        holds(6, tree, "no synchronized", false);
        return null;
    }

    @Override
    public Void visitAssert(AssertTree tree, Void none) {
        holds(6, tree, "no assert", false);
        return null;
    }

    @Override
    public Void visitInstanceOf(InstanceOfTree tree, Void none) {
        Tree type = tree.getType();
        TypeMirror asked = type == null ? null : typeOf(type);
        holds(6, tree, "instanceof an own class",
                asked == null || asked instanceof DeclaredType own && isOwn(own.asElement()));
        return super.visitInstanceOf(tree, none);
    }

    @Override
    public Void visitTypeCast(TypeCastTree tree, Void none) {
        TypeMirror type = typeOf(tree.getType());
        holds(6, tree, "a cast to a number or an own class", type.getKind().isPrimitive()
                || type.getKind() == TypeKind.TYPEVAR
                || type instanceof DeclaredType own && isOwn(own.asElement()));
        return super.visitTypeCast(tree, none);
    }

    // ---- rules 3, 6 and 10: operators

    @Override
    public Void visitBinary(BinaryTree tree, Void none) {
        TypeMirror left = typeOf(tree.getLeftOperand());
        TypeMirror right = typeOf(tree.getRightOperand());
        Tree.Kind kind = tree.getKind();
        boolean compares = kind == Tree.Kind.EQUAL_TO || kind == Tree.Kind.NOT_EQUAL_TO;
        holds(10, tree, "no texts joined by +", kind != Tree.Kind.PLUS || !isText(left) && !isText(right));
        boolean twoTexts = isText(left) && isText(right);
        boolean twoIntegers = simpleName(left).equals("Integer") && simpleName(right).equals("Integer");
        holds(6, tree, "no == of two texts or Integers", !compares || !twoTexts && !twoIntegers);
        holds(3, tree, "no remainder of fractions",
                kind != Tree.Kind.REMAINDER || !isFraction(left) && !isFraction(right));
        return super.visitBinary(tree, none);
    }

    @Override
    public Void visitCompoundAssignment(CompoundAssignmentTree tree, Void none) {
        TypeMirror type = typeOf(tree.getVariable());
        holds(10, tree, "no text joined by +=", !isText(type));
        holds(3, tree, "no remainder of fractions",
                tree.getKind() != Tree.Kind.REMAINDER_ASSIGNMENT || !isFraction(type));
        return super.visitCompoundAssignment(tree, none);
    }

    // ---- rule 9: loops; what their conditions ask changes in their own lines

    private static Set<String> names(Tree tree) {
        Set<String> names = new HashSet<>();
        new TreeScanner<Void, Void>() {
            @Override
            public Void visitIdentifier(IdentifierTree one, Void none) {
                names.add(one.getName().toString());
                return null;
            }
        }.scan(tree, null);
        return names;
    }

    private static Set<String> changed(Tree tree) {
        Set<String> changed = new HashSet<>();
        new TreeScanner<Void, Void>() {
            @Override
            public Void visitAssignment(AssignmentTree one, Void none) {
                changed.add(one.getVariable().toString());
                return super.visitAssignment(one, none);
            }

            @Override
            public Void visitCompoundAssignment(CompoundAssignmentTree one, Void none) {
                changed.add(one.getVariable().toString());
                return super.visitCompoundAssignment(one, none);
            }

            @Override
            public Void visitUnary(UnaryTree one, Void none) {
                changed.add(one.getExpression().toString());
                return super.visitUnary(one, none);
            }
        }.scan(tree, null);
        return changed;
    }

    private void ends(Tree loop, ExpressionTree condition) {
        Set<String> asked = condition == null ? new HashSet<>() : names(condition);
        asked.retainAll(changed(loop));
        holds(9, loop, "the loop's condition asks for what the loop changes", !asked.isEmpty());
    }

    @Override
    public Void visitForLoop(ForLoopTree tree, Void none) {
        ends(tree, tree.getCondition());
        return super.visitForLoop(tree, none);
    }

    @Override
    public Void visitWhileLoop(WhileLoopTree tree, Void none) {
        ends(tree, tree.getCondition());
        return super.visitWhileLoop(tree, none);
    }

    @Override
    public Void visitDoWhileLoop(DoWhileLoopTree tree, Void none) {
        ends(tree, tree.getCondition());
        return super.visitDoWhileLoop(tree, none);
    }
}

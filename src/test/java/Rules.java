import com.sun.source.tree.AnnotationTree;
import com.sun.source.tree.AssertTree;
import com.sun.source.tree.AssignmentTree;
import com.sun.source.tree.BinaryTree;
import com.sun.source.tree.BlockTree;
import com.sun.source.tree.ClassTree;
import com.sun.source.tree.CompilationUnitTree;
import com.sun.source.tree.CompoundAssignmentTree;
import com.sun.source.tree.DoWhileLoopTree;
import com.sun.source.tree.EnhancedForLoopTree;
import com.sun.source.tree.ExpressionTree;
import com.sun.source.tree.ForLoopTree;
import com.sun.source.tree.IdentifierTree;
import com.sun.source.tree.ImportTree;
import com.sun.source.tree.InstanceOfTree;
import com.sun.source.tree.LambdaExpressionTree;
import com.sun.source.tree.LiteralTree;
import com.sun.source.tree.MemberReferenceTree;
import com.sun.source.tree.MemberSelectTree;
import com.sun.source.tree.MethodInvocationTree;
import com.sun.source.tree.MethodTree;
import com.sun.source.tree.NewArrayTree;
import com.sun.source.tree.NewClassTree;
import com.sun.source.tree.SynchronizedTree;
import com.sun.source.tree.ThrowTree;
import com.sun.source.tree.Tree;
import com.sun.source.tree.TryTree;
import com.sun.source.tree.TypeCastTree;
import com.sun.source.tree.UnaryTree;
import com.sun.source.tree.VariableTree;
import com.sun.source.tree.WhileLoopTree;
import com.sun.source.util.TreePath;
import com.sun.source.util.TreePathScanner;
import com.sun.source.util.TreeScanner;
import java.util.ArrayList;
import java.util.HashSet;
import java.util.LinkedHashMap;
import java.util.LinkedHashSet;
import java.util.List;
import java.util.Map;
import java.util.Set;
import java.util.TreeSet;
import javax.lang.model.element.Element;
import javax.lang.model.element.ElementKind;
import javax.lang.model.element.Modifier;
import javax.lang.model.element.VariableElement;
import javax.lang.model.type.ArrayType;
import javax.lang.model.type.TypeKind;
import javax.lang.model.type.TypeMirror;

/**
 * What of LANGUAGE.md's rules the source of a class breaks. Where a rule leaves more than the class
 * needs, the narrow form is asked for: each loop is a for with a counter against a constant, and each
 * divisor is a constant. What shows only when the class runs (rules 7 and 11) is for LanguageTest.
 */
final class Rules extends TreePathScanner<Void, Void> {
    private static final Set<String> PUBLIC_NAMES = Set.of("BAD", "FULL", "REFUSED", "<init>", "add", "remove",
            "setLimit", "move", "reserve", "use", "giveBack", "release", "free", "recover", "total", "room",
            "blocker", "over", "below");
    private static final Set<TypeKind> NUMBERS = Set.of(TypeKind.INT, TypeKind.LONG, TypeKind.SHORT,
            TypeKind.BYTE, TypeKind.CHAR, TypeKind.BOOLEAN);
    private static final int MOST_PARAMETERS = 7;
    private static final int MOST_LINES = 60;
    private static final int MOST_FIELDS = 40;
    private static final int DEEPEST_CALL = 6;

    private final Source source;
    private final Set<String> broken = new TreeSet<>();
    private final Map<Element, Set<Element>> calls = new LinkedHashMap<>();
    private final Set<Element> arraysMade = new HashSet<>();
    private boolean constructorHasCalled = false;

    private Rules(Source source) {
        this.source = source;
    }

    /** Each as "rule: what, line". */
    static Set<String> brokenBy(Source source) {
        Rules rules = new Rules(source);
        rules.scan(source.unit, null);
        rules.lookAtCalls();
        return rules.broken;
    }

    private void breaks(int rule, String what, Tree tree) {
        broken.add(rule + ": " + what + ", line " + source.firstLine(tree));
    }

    private void breaksIf(boolean so, int rule, String what, Tree tree) {
        if (so) {
            breaks(rule, what, tree);
        }
    }

    private Element elementOf(Tree tree) {
        return source.trees.getElement(TreePath.getPath(source.unit, tree));
    }

    private TypeMirror typeOf(Tree tree) {
        return source.trees.getTypeMirror(TreePath.getPath(source.unit, tree));
    }

    private boolean isArray(Tree tree) {
        TypeMirror type = typeOf(tree);
        return type != null && type.getKind() == TypeKind.ARRAY;
    }

    private static boolean isOfTheLanguage(TypeMirror type) {
        TypeMirror plain = type.getKind() == TypeKind.ARRAY ? ((ArrayType) type).getComponentType() : type;
        return NUMBERS.contains(plain.getKind());
    }

    private Tree around(Set<Tree.Kind> kinds) {
        for (TreePath path = getCurrentPath().getParentPath(); path != null; path = path.getParentPath()) {
            if (kinds.contains(path.getLeaf().getKind())) {
                return path.getLeaf();
            }
        }
        return null;
    }

    private MethodTree method() {
        return (MethodTree) around(Set.of(Tree.Kind.METHOD));
    }

    private boolean inConstructor() {
        return method() != null && method().getReturnType() == null;
    }

    private boolean inLoop() {
        return around(Set.of(Tree.Kind.FOR_LOOP, Tree.Kind.ENHANCED_FOR_LOOP, Tree.Kind.WHILE_LOOP,
                Tree.Kind.DO_WHILE_LOOP)) != null;
    }

    private boolean behindCondition() {
        return around(Set.of(Tree.Kind.IF, Tree.Kind.CONDITIONAL_EXPRESSION, Tree.Kind.SWITCH,
                Tree.Kind.SWITCH_EXPRESSION)) != null;
    }

    /** Null when it is neither a literal nor the name of a constant. */
    private Long constantOf(Tree tree) {
        Object value = null;
        if (tree instanceof LiteralTree literal) {
            value = literal.getValue();
        } else if (elementOf(tree) instanceof VariableElement variable) {
            value = variable.getConstantValue();
        }
        return value instanceof Number number ? Long.valueOf(number.longValue()) : null;
    }

    @Override
    public Void visitCompilationUnit(CompilationUnitTree unit, Void none) {
        breaksIf(unit.getPackage() != null, 1, "a package line", unit);
        breaksIf(unit.getTypeDecls().size() != 1, 1, "more than one class", unit);
        return super.visitCompilationUnit(unit, none);
    }

    @Override
    public Void visitImport(ImportTree tree, Void none) {
        breaks(3, "an import", tree);
        return null;
    }

    @Override
    public Void visitAnnotation(AnnotationTree tree, Void none) {
        breaks(3, "an annotation is a class of the library", tree);
        return null;
    }

    @Override
    public Void visitClass(ClassTree tree, Void none) {
        Set<Modifier> flags = tree.getModifiers().getFlags();
        boolean nested = getCurrentPath().getParentPath().getLeaf() != source.unit;
        breaksIf(nested, 1, "a nested class", tree);
        breaksIf(tree.getKind() != Tree.Kind.CLASS, 1, "not a class", tree);
        breaksIf(!flags.equals(Set.of(Modifier.PUBLIC, Modifier.FINAL)), 1, "not public and final", tree);
        breaksIf(!tree.getSimpleName().contentEquals("QuotaTree"), 1, "not the document's class", tree);
        breaksIf(tree.getExtendsClause() != null || !tree.getImplementsClause().isEmpty()
                || !tree.getTypeParameters().isEmpty(), 3, "made of another class", tree);
        lookAtMembers(tree);
        return super.visitClass(tree, none);
    }

    private void lookAtMembers(ClassTree tree) {
        int fields = 0;
        for (Tree member : tree.getMembers()) {
            if (member instanceof VariableTree field) {
                Set<Modifier> flags = field.getModifiers().getFlags();
                lookAtVisibility(field.getName().toString(), flags, field);
                fields += flags.contains(Modifier.STATIC) ? 0 : 1;
                breaksIf(flags.contains(Modifier.STATIC) && !isConstant(field), 5, "not a constant", field);
            } else if (member instanceof MethodTree method) {
                lookAtVisibility(method.getName().toString(), method.getModifiers().getFlags(), method);
            } else if (member instanceof BlockTree block) {
                breaksIf(block.isStatic(), 5, "a static initialiser", block);
            }
        }
        breaksIf(fields > MOST_FIELDS, 10, fields + " fields", tree);
    }

    private void lookAtVisibility(String name, Set<Modifier> flags, Tree member) {
        boolean hidden = flags.contains(Modifier.PRIVATE);
        boolean open = flags.contains(Modifier.PUBLIC);
        breaksIf(!hidden && !open, 1, name + " is neither private nor public", member);
        breaksIf(open && !PUBLIC_NAMES.contains(name), 1, name + " is not in the document", member);
        breaksIf(hidden && PUBLIC_NAMES.contains(name), 1, name + " is private with a public name", member);
    }

    private boolean isConstant(VariableTree field) {
        TypeKind kind = typeOf(field).getKind();
        boolean number = kind == TypeKind.INT || kind == TypeKind.LONG;
        return number && ((VariableElement) elementOf(field)).getConstantValue() != null;
    }

    @Override
    public Void visitMethod(MethodTree tree, Void none) {
        Set<Modifier> flags = tree.getModifiers().getFlags();
        breaksIf(flags.contains(Modifier.SYNCHRONIZED), 6, "synchronized", tree);
        breaksIf(!tree.getThrows().isEmpty(), 6, "throws", tree);
        breaksIf(!tree.getTypeParameters().isEmpty(), 2, "a type parameter", tree);
        breaksIf(tree.getParameters().size() > MOST_PARAMETERS, 10, "too many parameters", tree);
        breaksIf(source.lastLine(tree) - source.firstLine(tree) >= MOST_LINES, 10, "too long", tree);
        lookAtAnswer(tree);
        calls.computeIfAbsent(elementOf(tree), any -> new LinkedHashSet<>());
        return super.visitMethod(tree, none);
    }

    private void lookAtAnswer(MethodTree tree) {
        if (tree.getReturnType() != null) {
            TypeMirror type = typeOf(tree.getReturnType());
            breaksIf(type.getKind() == TypeKind.ARRAY, 4, "answers an array", tree);
            breaksIf(type.getKind() != TypeKind.VOID && !isOfTheLanguage(type), 2, "answers " + type, tree);
        }
    }

    @Override
    public Void visitVariable(VariableTree tree, Void none) {
        TypeMirror type = typeOf(tree);
        breaksIf(!isOfTheLanguage(type), 2, tree.getName() + " is of type " + type, tree);
        Element variable = elementOf(tree);
        if (variable.getKind() == ElementKind.FIELD && tree.getInitializer() instanceof NewArrayTree) {
            arraysMade.add(variable);
        }
        return super.visitVariable(tree, none);
    }

    /** Every expression comes by here, so that no type outside the language slips through unnamed. */
    @Override
    public Void scan(Tree tree, Void none) {
        if (tree instanceof ExpressionTree && !(tree instanceof AnnotationTree)) {
            lookAtType(tree, source.trees.getTypeMirror(new TreePath(getCurrentPath(), tree)));
        }
        return super.scan(tree, none);
    }

    private void lookAtType(Tree tree, TypeMirror type) {
        if (type == null) {
            return;
        }
        switch (type.getKind()) {
            case NULL -> breaks(4, "null", tree);
            case VOID, EXECUTABLE, PACKAGE, NONE -> { }
            case DECLARED -> breaksIf(!tree.toString().equals("this"), 2, "an object of " + type, tree);
            default -> breaksIf(!isOfTheLanguage(type), 2, "a value of type " + type, tree);
        }
    }

    @Override
    public Void visitIdentifier(IdentifierTree tree, Void none) {
        lookAtName(tree);
        return super.visitIdentifier(tree, none);
    }

    @Override
    public Void visitMemberSelect(MemberSelectTree tree, Void none) {
        boolean length = isArray(tree.getExpression()) && tree.getIdentifier().contentEquals("length");
        if (!length) {
            lookAtName(tree);
        }
        return super.visitMemberSelect(tree, none);
    }

    private void lookAtName(Tree tree) {
        Element element = elementOf(tree);
        boolean own = element.toString().equals("QuotaTree") || ownerOf(element).equals("QuotaTree");
        boolean makesObject = tree.toString().equals("super") && inConstructor();
        breaksIf(!own && !makesObject, 3, tree + " is not of this class", tree);
    }

    private static String ownerOf(Element element) {
        Element at = element;
        while (at != null && !at.getKind().isClass() && !at.getKind().isInterface()) {
            at = at.getEnclosingElement();
        }
        return at == null || at == element ? "" : at.toString();
    }

    @Override
    public Void visitNewClass(NewClassTree tree, Void none) {
        breaks(4, "makes an object", tree);
        return super.visitNewClass(tree, none);
    }

    @Override
    public Void visitNewArray(NewArrayTree tree, Void none) {
        boolean inField = method() == null && getCurrentPath().getParentPath().getLeaf() instanceof VariableTree;
        breaksIf(!inField && !inConstructor(), 4, "makes an array", tree);
        breaksIf(inLoop() || behindCondition(), 4, "makes an array in a loop or behind a condition", tree);
        breaksIf(constructorHasCalled && inConstructor(), 4, "makes an array after a call", tree);
        breaksIf(tree.getInitializers() != null || tree.getDimensions().size() != 1, 4, "no length", tree);
        for (ExpressionTree length : tree.getDimensions()) {
            Long constant = constantOf(length);
            breaksIf(constant == null || constant < 1, 4, "a length that is not a constant from 1 on", tree);
        }
        return super.visitNewArray(tree, none);
    }

    @Override
    public Void visitAssignment(AssignmentTree tree, Void none) {
        if (isArray(tree.getVariable())) {
            Element variable = elementOf(tree.getVariable());
            boolean field = variable.getKind() == ElementKind.FIELD;
            breaksIf(field && !inConstructor(), 4, "a method assigns to " + variable, tree);
            breaksIf(field && !arraysMade.add(variable), 4, variable + " is made twice", tree);
            breaksIf(!field && inLoop(), 4, variable + " changes in a loop", tree);
        }
        return super.visitAssignment(tree, none);
    }

    @Override
    public Void visitBinary(BinaryTree tree, Void none) {
        boolean equality = tree.getKind() == Tree.Kind.EQUAL_TO || tree.getKind() == Tree.Kind.NOT_EQUAL_TO;
        breaksIf(equality && (isArray(tree.getLeftOperand()) || isArray(tree.getRightOperand())), 4,
                "compares an array", tree);
        if (tree.getKind() == Tree.Kind.DIVIDE || tree.getKind() == Tree.Kind.REMAINDER) {
            lookAtDivisor(tree.getRightOperand());
        }
        return super.visitBinary(tree, none);
    }

    @Override
    public Void visitCompoundAssignment(CompoundAssignmentTree tree, Void none) {
        if (tree.getKind() == Tree.Kind.DIVIDE_ASSIGNMENT || tree.getKind() == Tree.Kind.REMAINDER_ASSIGNMENT) {
            lookAtDivisor(tree.getExpression());
        }
        return super.visitCompoundAssignment(tree, none);
    }

    private void lookAtDivisor(ExpressionTree tree) {
        Long constant = constantOf(tree);
        breaksIf(constant == null || constant == 0, 7, "divides by " + tree, tree);
    }

    @Override
    public Void visitTypeCast(TypeCastTree tree, Void none) {
        breaksIf(!typeOf(tree.getType()).getKind().isPrimitive(), 6, "casts a reference", tree);
        return super.visitTypeCast(tree, none);
    }

    @Override
    public Void visitThrow(ThrowTree tree, Void none) {
        breaks(6, "throw", tree);
        return super.visitThrow(tree, none);
    }

    @Override
    public Void visitTry(TryTree tree, Void none) {
        breaks(6, "try", tree);
        return super.visitTry(tree, none);
    }

    @Override
    public Void visitSynchronized(SynchronizedTree tree, Void none) {
        breaks(6, "synchronized", tree);
        return super.visitSynchronized(tree, none);
    }

    @Override
    public Void visitAssert(AssertTree tree, Void none) {
        breaks(6, "assert", tree);
        return super.visitAssert(tree, none);
    }

    @Override
    public Void visitInstanceOf(InstanceOfTree tree, Void none) {
        breaks(6, "instanceof", tree);
        return super.visitInstanceOf(tree, none);
    }

    @Override
    public Void visitLambdaExpression(LambdaExpressionTree tree, Void none) {
        breaks(6, "a lambda", tree);
        return null;
    }

    @Override
    public Void visitMemberReference(MemberReferenceTree tree, Void none) {
        breaks(6, "a method reference", tree);
        return null;
    }

    @Override
    public Void visitWhileLoop(WhileLoopTree tree, Void none) {
        breaks(8, "not a for loop with a counter", tree);
        return super.visitWhileLoop(tree, none);
    }

    @Override
    public Void visitDoWhileLoop(DoWhileLoopTree tree, Void none) {
        breaks(8, "not a for loop with a counter", tree);
        return super.visitDoWhileLoop(tree, none);
    }

    @Override
    public Void visitEnhancedForLoop(EnhancedForLoopTree tree, Void none) {
        breaks(8, "not a for loop with a counter", tree);
        return super.visitEnhancedForLoop(tree, none);
    }

    @Override
    public Void visitForLoop(ForLoopTree tree, Void none) {
        boolean counted = tree.getInitializer().size() == 1 && tree.getUpdate().size() == 1
                && tree.getInitializer().get(0) instanceof VariableTree counter
                && tree.getUpdate().get(0).toString().matches(counter.getName() + "\\+\\+;?")
                && isBound(tree.getCondition(), counter.getName().toString())
                && !changes(tree.getStatement(), counter.getName().toString());
        breaksIf(!counted, 8, "not a for loop with a counter against a constant", tree);
        return super.visitForLoop(tree, none);
    }

    private boolean isBound(ExpressionTree condition, String counter) {
        if (!(condition instanceof BinaryTree binary)) {
            return false;
        }
        return switch (binary.getKind()) {
            case CONDITIONAL_AND -> isBound(binary.getLeftOperand(), counter)
                    || isBound(binary.getRightOperand(), counter);
            case LESS_THAN -> binary.getLeftOperand().toString().equals(counter)
                    && constantOf(binary.getRightOperand()) != null;
            default -> false;
        };
    }

    private static boolean changes(Tree body, String counter) {
        boolean[] found = {false};
        new TreeScanner<Void, Void>() {
            @Override
            public Void visitAssignment(AssignmentTree tree, Void none) {
                found[0] |= tree.getVariable().toString().equals(counter);
                return super.visitAssignment(tree, none);
            }

            @Override
            public Void visitCompoundAssignment(CompoundAssignmentTree tree, Void none) {
                found[0] |= tree.getVariable().toString().equals(counter);
                return super.visitCompoundAssignment(tree, none);
            }

            @Override
            public Void visitUnary(UnaryTree tree, Void none) {
                boolean step = tree.getKind() != Tree.Kind.UNARY_MINUS && tree.getKind() != Tree.Kind.UNARY_PLUS
                        && tree.getKind() != Tree.Kind.BITWISE_COMPLEMENT;
                found[0] |= step && tree.getExpression().toString().equals(counter);
                return super.visitUnary(tree, none);
            }
        }.scan(body, null);
        return found[0];
    }

    @Override
    public Void visitMethodInvocation(MethodInvocationTree tree, Void none) {
        Element called = elementOf(tree);
        if (method() != null && called.getKind() == ElementKind.METHOD) {
            calls.computeIfAbsent(elementOf(method()), any -> new LinkedHashSet<>()).add(called);
            lookAtConstructorCall(tree, called);
        }
        for (ExpressionTree argument : tree.getArguments()) {
            breaksIf(hasCall(argument), 10, "a call inside the arguments of a call", tree);
        }
        return super.visitMethodInvocation(tree, none);
    }

    private void lookAtConstructorCall(MethodInvocationTree tree, Element called) {
        if (inConstructor() && !called.getModifiers().contains(Modifier.STATIC)) {
            constructorHasCalled = true;
            for (ExpressionTree argument : tree.getArguments()) {
                breaksIf(isArray(argument), 4, "the constructor hands an array on", tree);
            }
        }
    }

    private static boolean hasCall(Tree argument) {
        boolean[] found = {false};
        new TreeScanner<Void, Void>() {
            @Override
            public Void visitMethodInvocation(MethodInvocationTree tree, Void none) {
                found[0] = true;
                return null;
            }
        }.scan(argument, null);
        return found[0];
    }

    private void lookAtCalls() {
        for (Element method : calls.keySet()) {
            int depth = depthOf(method, List.of());
            if (depth > DEEPEST_CALL) {
                broken.add("10: calls from " + method + " go " + depth + " deep");
            }
        }
    }

    private int depthOf(Element method, List<Element> above) {
        if (above.contains(method)) {
            broken.add("8: " + method + " comes back to itself");
            return 0;
        }
        List<Element> way = new ArrayList<>(above);
        way.add(method);
        int deepest = 0;
        for (Element called : calls.getOrDefault(method, Set.of())) {
            deepest = Math.max(deepest, depthOf(called, way));
        }
        return deepest + 1;
    }
}

import com.sun.source.tree.AssignmentTree;
import com.sun.source.tree.BinaryTree;
import com.sun.source.tree.BlockTree;
import com.sun.source.tree.ClassTree;
import com.sun.source.tree.CompilationUnitTree;
import com.sun.source.tree.CompoundAssignmentTree;
import com.sun.source.tree.ExpressionTree;
import com.sun.source.tree.ForLoopTree;
import com.sun.source.tree.IdentifierTree;
import com.sun.source.tree.LiteralTree;
import com.sun.source.tree.MemberSelectTree;
import com.sun.source.tree.MethodInvocationTree;
import com.sun.source.tree.MethodTree;
import com.sun.source.tree.NewArrayTree;
import com.sun.source.tree.ParenthesizedTree;
import com.sun.source.tree.StatementTree;
import com.sun.source.tree.Tree;
import com.sun.source.tree.Tree.Kind;
import com.sun.source.tree.TypeCastTree;
import com.sun.source.tree.UnaryTree;
import com.sun.source.tree.VariableTree;
import com.sun.source.util.JavacTask;
import com.sun.source.util.SourcePositions;
import com.sun.source.util.TreePath;
import com.sun.source.util.TreePathScanner;
import com.sun.source.util.TreeScanner;
import com.sun.source.util.Trees;
import java.io.IOException;
import java.net.URI;
import java.util.ArrayList;
import java.util.EnumSet;
import java.util.HashSet;
import java.util.List;
import java.util.Map;
import java.util.Set;
import java.util.TreeMap;
import java.util.TreeSet;
import javax.lang.model.element.Element;
import javax.lang.model.element.ElementKind;
import javax.lang.model.element.Modifier;
import javax.lang.model.element.VariableElement;
import javax.lang.model.type.ArrayType;
import javax.lang.model.type.TypeKind;
import javax.lang.model.type.TypeMirror;
import javax.tools.DiagnosticCollector;
import javax.tools.JavaFileObject;
import javax.tools.SimpleJavaFileObject;
import javax.tools.ToolProvider;

/**
 * Looks for breaches of LANGUAGE.md in the tree that javac makes of a source.
 *
 * Where a rule needs thought, a stricter one that a program can see is taken: arrays are made in
 * fields' initialisers alone, every loop is a counted for, and every divisor is a constant. That
 * no index is out of range (rule 7) is not seen here; the tests that call the class see it.
 */
final class LanguageRules extends TreePathScanner<Void, Void> {
    private static final int MOST_PARAMETERS = 7;
    private static final int MOST_LINES = 60;
    private static final int MOST_FIELDS = 40;
    private static final int MOST_DEEP = 6;

    private static final Set<Kind> BANNED_BY_6 = EnumSet.of(Kind.THROW, Kind.TRY, Kind.CATCH, Kind.SYNCHRONIZED, Kind.ASSERT,
        Kind.INSTANCE_OF, Kind.LAMBDA_EXPRESSION, Kind.MEMBER_REFERENCE);
    private static final Set<Kind> UNCOUNTED_LOOPS = EnumSet.of(Kind.WHILE_LOOP, Kind.DO_WHILE_LOOP, Kind.ENHANCED_FOR_LOOP);
    private static final Set<Kind> DIVISIONS = EnumSet.of(Kind.DIVIDE, Kind.REMAINDER, Kind.DIVIDE_ASSIGNMENT,
        Kind.REMAINDER_ASSIGNMENT);
    private static final Set<Kind> STEPS = EnumSet.of(Kind.PREFIX_INCREMENT, Kind.POSTFIX_INCREMENT, Kind.PREFIX_DECREMENT,
        Kind.POSTFIX_DECREMENT);
    private static final Set<TypeKind> NUMBERS = EnumSet.of(TypeKind.INT, TypeKind.LONG, TypeKind.SHORT, TypeKind.BYTE,
        TypeKind.CHAR, TypeKind.BOOLEAN);

    private final List<String> breaches = new ArrayList<>();
    private final Map<String, Set<String>> callsOf = new TreeMap<>();
    private final Trees trees;
    private final CompilationUnitTree unit;

    private LanguageRules(Trees trees, CompilationUnitTree unit) {
        this.trees = trees;
        this.unit = unit;
    }

    /** Every breach, as "rule N, line L: what"; a source that is not Java is told as one too. */
    static List<String> breachesIn(String className, String source) throws IOException {
        JavaFileObject file = new SimpleJavaFileObject(URI.create("mem:///" + className + ".java"), JavaFileObject.Kind.SOURCE) {
            @Override
            public CharSequence getCharContent(boolean ignoreEncodingErrors) {
                return source;
            }
        };
        DiagnosticCollector<JavaFileObject> told = new DiagnosticCollector<>();
        JavacTask task = (JavacTask) ToolProvider.getSystemJavaCompiler().getTask(null, null, told,
            List.of("--release", "17", "-proc:none"), null, List.of(file));
        CompilationUnitTree unit = task.parse().iterator().next();
        task.analyze();
        if (!told.getDiagnostics().isEmpty()) {
            return List.of("javac: " + told.getDiagnostics());
        }
        LanguageRules rules = new LanguageRules(Trees.instance(task), unit);
        rules.scan(new TreePath(unit), null);
        rules.lookAtCallChains();
        return rules.breaches;
    }

    @Override
    public Void scan(Tree tree, Void none) {
        if (tree != null) {
            Kind kind = tree.getKind();
            rule(6, tree, kind + " is used", !BANNED_BY_6.contains(kind));
            rule(8, tree, "a loop without a counter", !UNCOUNTED_LOOPS.contains(kind));
            rule(4, tree, "an object is made", kind != Kind.NEW_CLASS);
        }
        return super.scan(tree, none);
    }

    @Override
    public Void visitCompilationUnit(CompilationUnitTree tree, Void none) {
        rule(1, tree, "a package line", tree.getPackage() == null);
        rule(3, tree, "an import", tree.getImports().isEmpty());
        rule(1, tree, "not just one class", tree.getTypeDecls().size() == 1);
        return super.visitCompilationUnit(tree, none);
    }

    @Override
    public Void visitClass(ClassTree tree, Void none) {
        rule(1, tree, "not a plain class at the top", tree.getKind() == Kind.CLASS && parent().getKind() == Kind.COMPILATION_UNIT);
        int fields = 0;
        for (Tree member : tree.getMembers()) {
            boolean isStaticBlock = member instanceof BlockTree && ((BlockTree) member).isStatic();
            rule(5, member, "a static initialiser", !isStaticBlock);
            boolean isField = member instanceof VariableTree
                && !((VariableTree) member).getModifiers().getFlags().contains(Modifier.STATIC);
            fields += isField ? 1 : 0;
        }
        rule(10, tree, fields + " fields", fields <= MOST_FIELDS);
        return super.visitClass(tree, none);
    }

    @Override
    public Void visitVariable(VariableTree tree, Void none) {
        rule(2, tree, tree.getName() + " has a type outside the rules", isAllowed(trees.getTypeMirror(getCurrentPath())));
        if (tree.getModifiers().getFlags().contains(Modifier.STATIC)) {
            VariableElement field = (VariableElement) trees.getElement(getCurrentPath());
            TypeKind kind = field.asType().getKind();
            rule(5, tree, tree.getName() + " is no constant of int or long",
                field.getConstantValue() != null && (kind == TypeKind.INT || kind == TypeKind.LONG));
        }
        return super.visitVariable(tree, none);
    }

    @Override
    public Void visitMethod(MethodTree tree, Void none) {
        String name = tree.getName().toString();
        callsOf.computeIfAbsent(name, key -> new TreeSet<>());
        rule(10, tree, name + " takes too many", tree.getParameters().size() <= MOST_PARAMETERS);
        rule(10, tree, name + " is long", lastLineOf(tree) - lineOf(tree) < MOST_LINES);
        Tree answer = tree.getReturnType();
        if (answer != null) {
            rule(4, tree, name + " answers an array", answer.getKind() == Kind.PRIMITIVE_TYPE);
        }
        return super.visitMethod(tree, none);
    }

    @Override
    public Void visitMethodInvocation(MethodInvocationTree tree, Void none) {
        ExpressionTree called = tree.getMethodSelect();
        boolean isOwn = called instanceof IdentifierTree && isOfThisClass(called);
        // javac itself puts a call of super() at the head of a constructor.
        boolean isSuper = called instanceof IdentifierTree && ((IdentifierTree) called).getName().contentEquals("super");
        rule(3, tree, called + " is no method of the class", isOwn || isSuper);
        if (isOwn) {
            callsOf.computeIfAbsent(nameOfMethodAround(), key -> new TreeSet<>()).add(called.toString());
        }
        for (ExpressionTree argument : tree.getArguments()) {
            rule(10, argument, "a call inside the arguments of a call", !hasCall(argument));
        }
        return super.visitMethodInvocation(tree, none);
    }

    @Override
    public Void visitMemberSelect(MemberSelectTree tree, Void none) {
        boolean isOfThis = tree.getExpression().toString().equals("this");
        boolean isLength = isArray(tree.getExpression()) && tree.getIdentifier().contentEquals("length");
        rule(3, tree, tree + " reaches outside the class", isOfThis || isLength);
        return super.visitMemberSelect(tree, none);
    }

    @Override
    public Void visitLiteral(LiteralTree tree, Void none) {
        rule(4, tree, "null is used", tree.getKind() != Kind.NULL_LITERAL);
        rule(2, tree, tree + " is no whole number", tree.getKind() == Kind.NULL_LITERAL || isAllowed(typeOf(tree)));
        return super.visitLiteral(tree, none);
    }

    @Override
    public Void visitTypeCast(TypeCastTree tree, Void none) {
        rule(6, tree, "a cast to what is no number type", tree.getType().getKind() == Kind.PRIMITIVE_TYPE);
        rule(2, tree, "a cast to a type outside the rules", isAllowed(typeOf(tree)));
        return super.visitTypeCast(tree, none);
    }

    @Override
    public Void visitNewArray(NewArrayTree tree, Void none) {
        TreePath holder = getCurrentPath().getParentPath();
        boolean isFieldsOwn = holder.getLeaf().getKind() == Kind.VARIABLE
            && holder.getParentPath().getLeaf().getKind() == Kind.CLASS;
        rule(4, tree, "an array is made outside a field's initialiser", isFieldsOwn);
        boolean hasLength = tree.getInitializers() == null && tree.getDimensions().size() == 1;
        rule(4, tree, "an array's length is no constant of 1 or more",
            hasLength && valueOf(tree.getDimensions().get(0)) >= 1);
        return super.visitNewArray(tree, none);
    }

    @Override
    public Void visitAssignment(AssignmentTree tree, Void none) {
        rule(4, tree, "an array is assigned", !isArray(tree.getVariable()));
        return super.visitAssignment(tree, none);
    }

    @Override
    public Void visitBinary(BinaryTree tree, Void none) {
        lookAtDivisor(tree, tree.getRightOperand());
        boolean isComparison = tree.getKind() == Kind.EQUAL_TO || tree.getKind() == Kind.NOT_EQUAL_TO;
        rule(4, tree, "arrays are compared", !isComparison || !isArray(tree.getLeftOperand()));
        return super.visitBinary(tree, none);
    }

    @Override
    public Void visitCompoundAssignment(CompoundAssignmentTree tree, Void none) {
        lookAtDivisor(tree, tree.getExpression());
        return super.visitCompoundAssignment(tree, none);
    }

    @Override
    public Void visitForLoop(ForLoopTree tree, Void none) {
        rule(8, tree, "a for loop whose end can't be seen", isCounted(tree));
        return super.visitForLoop(tree, none);
    }

    private void lookAtDivisor(Tree tree, ExpressionTree divisor) {
        rule(7, tree, "a divisor that is no constant beside 0", !DIVISIONS.contains(tree.getKind()) || valueOf(divisor) != 0);
    }

    /** for (int i = ..; i &lt; bound; i++), with neither i nor the bound changed in the body. */
    private static boolean isCounted(ForLoopTree loop) {
        if (loop.getInitializer().size() != 1 || loop.getUpdate().size() != 1 || loop.getCondition() == null) {
            return false;
        }
        StatementTree start = loop.getInitializer().get(0);
        ExpressionTree condition = bare(loop.getCondition());
        if (!(start instanceof VariableTree) || condition.getKind() != Kind.LESS_THAN) {
            return false;
        }
        String counter = ((VariableTree) start).getName().toString();
        BinaryTree comparison = (BinaryTree) condition;
        ExpressionTree bound = bare(comparison.getRightOperand());
        boolean isBoundPlain = bound instanceof IdentifierTree || bound instanceof LiteralTree;
        boolean isStepPlain = loop.getUpdate().get(0).toString().matches(counter + "\\+\\+;?|\\+\\+" + counter + ";?");
        Set<String> changed = changedIn(loop.getStatement());
        return isBoundPlain && isStepPlain && comparison.getLeftOperand().toString().equals(counter)
            && !changed.contains(counter) && !changed.contains(bound.toString());
    }

    private static Set<String> changedIn(Tree body) {
        Set<String> changed = new HashSet<>();
        new TreeScanner<Void, Void>() {
            @Override
            public Void visitAssignment(AssignmentTree tree, Void none) {
                changed.add(tree.getVariable().toString());
                return super.visitAssignment(tree, none);
            }

            @Override
            public Void visitCompoundAssignment(CompoundAssignmentTree tree, Void none) {
                changed.add(tree.getVariable().toString());
                return super.visitCompoundAssignment(tree, none);
            }

            @Override
            public Void visitUnary(UnaryTree tree, Void none) {
                if (STEPS.contains(tree.getKind())) {
                    changed.add(tree.getExpression().toString());
                }
                return super.visitUnary(tree, none);
            }
        }.scan(body, null);
        return changed;
    }

    private static boolean hasCall(Tree argument) {
        Set<Tree> calls = new HashSet<>();
        new TreeScanner<Void, Void>() {
            @Override
            public Void visitMethodInvocation(MethodInvocationTree tree, Void none) {
                calls.add(tree);
                return super.visitMethodInvocation(tree, none);
            }
        }.scan(argument, null);
        return !calls.isEmpty();
    }

    private void lookAtCallChains() {
        for (String name : callsOf.keySet()) {
            lookAtCallChain(new ArrayList<>(List.of(name)));
        }
    }

    private void lookAtCallChain(List<String> chain) {
        String last = chain.get(chain.size() - 1);
        if (chain.indexOf(last) != chain.size() - 1) {
            breaches.add("rule 8: recursion, " + chain);
            return;
        }
        if (chain.size() > MOST_DEEP) {
            breaches.add("rule 10: calls go deep, " + chain);
            return;
        }
        for (String called : callsOf.getOrDefault(last, Set.of())) {
            List<String> longer = new ArrayList<>(chain);
            longer.add(called);
            lookAtCallChain(longer);
        }
    }

    private void rule(int number, Tree where, String breach, boolean isKept) {
        if (!isKept) {
            breaches.add("rule " + number + ", line " + lineOf(where) + ": " + breach);
        }
    }

    private Tree parent() {
        return getCurrentPath().getParentPath().getLeaf();
    }

    private String nameOfMethodAround() {
        for (Tree around : getCurrentPath()) {
            if (around instanceof MethodTree) {
                return ((MethodTree) around).getName().toString();
            }
        }
        return "a field's initialiser";
    }

    private boolean isOfThisClass(ExpressionTree called) {
        Element element = trees.getElement(new TreePath(getCurrentPath(), called));
        return element != null && element.getKind() == ElementKind.METHOD
            && element.getEnclosingElement().equals(trees.getElement(new TreePath(new TreePath(unit), unit.getTypeDecls().get(0))));
    }

    private TypeMirror typeOf(Tree tree) {
        TreePath here = getCurrentPath();
        return trees.getTypeMirror(here.getLeaf() == tree ? here : new TreePath(here, tree));
    }

    private boolean isArray(Tree tree) {
        TypeMirror type = typeOf(tree);
        return type != null && type.getKind() == TypeKind.ARRAY;
    }

    private static boolean isAllowed(TypeMirror type) {
        TypeKind kind = type.getKind() == TypeKind.ARRAY ? ((ArrayType) type).getComponentType().getKind() : type.getKind();
        return NUMBERS.contains(kind);
    }

    /** The value of a literal or of a constant's name; 0 for all else. */
    private long valueOf(ExpressionTree tree) {
        ExpressionTree plain = bare(tree);
        Object value = null;
        if (plain instanceof LiteralTree) {
            value = ((LiteralTree) plain).getValue();
        } else if (plain instanceof IdentifierTree) {
            Element named = trees.getElement(new TreePath(getCurrentPath(), plain));
            value = named instanceof VariableElement ? ((VariableElement) named).getConstantValue() : null;
        }
        return value instanceof Number ? ((Number) value).longValue() : 0;
    }

    private static ExpressionTree bare(ExpressionTree tree) {
        ExpressionTree plain = tree;
        while (plain instanceof ParenthesizedTree) {
            plain = ((ParenthesizedTree) plain).getExpression();
        }
        return plain;
    }

    private long lineOf(Tree tree) {
        SourcePositions positions = trees.getSourcePositions();
        return unit.getLineMap().getLineNumber(Math.max(0, positions.getStartPosition(unit, tree)));
    }

    private long lastLineOf(Tree tree) {
        SourcePositions positions = trees.getSourcePositions();
        return unit.getLineMap().getLineNumber(Math.max(0, positions.getEndPosition(unit, tree)));
    }
}

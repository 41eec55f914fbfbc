import com.sun.source.tree.AssignmentTree;
import com.sun.source.tree.BinaryTree;
import com.sun.source.tree.BlockTree;
import com.sun.source.tree.ClassTree;
import com.sun.source.tree.CompilationUnitTree;
import com.sun.source.tree.CompoundAssignmentTree;
import com.sun.source.tree.DoWhileLoopTree;
import com.sun.source.tree.ExpressionTree;
import com.sun.source.tree.ForLoopTree;
import com.sun.source.tree.IdentifierTree;
import com.sun.source.tree.LiteralTree;
import com.sun.source.tree.MemberSelectTree;
import com.sun.source.tree.MethodInvocationTree;
import com.sun.source.tree.MethodTree;
import com.sun.source.tree.NewArrayTree;
import com.sun.source.tree.PrimitiveTypeTree;
import com.sun.source.tree.Tree;
import com.sun.source.tree.Tree.Kind;
import com.sun.source.tree.UnaryTree;
import com.sun.source.tree.VariableTree;
import com.sun.source.tree.WhileLoopTree;
import com.sun.source.util.JavacTask;
import com.sun.source.util.SourcePositions;
import com.sun.source.util.TreePath;
import com.sun.source.util.TreePathScanner;
import com.sun.source.util.TreeScanner;
import com.sun.source.util.Trees;
import java.io.IOException;
import java.net.URI;
import java.util.ArrayList;
import java.util.EnumSet;
import java.util.HashMap;
import java.util.List;
import java.util.Map;
import java.util.Set;
import java.util.TreeMap;
import java.util.TreeSet;
import javax.lang.model.element.Element;
import javax.lang.model.element.Modifier;
import javax.lang.model.element.VariableElement;
import javax.lang.model.type.ArrayType;
import javax.lang.model.type.TypeKind;
import javax.lang.model.type.TypeMirror;
import javax.tools.Diagnostic;
import javax.tools.DiagnosticCollector;
import javax.tools.JavaFileObject;
import javax.tools.SimpleJavaFileObject;
import javax.tools.ToolProvider;

/**
 * What in a source text breaks LANGUAGE.md, each with the rule's number in front. In two places it
 * is stricter than the rules, for plainness: arrays are made in field initialisers alone, and every
 * loop is a for loop with a counter of its own. Rule 7 can only be seen by running.
 */
final class Language extends TreePathScanner<Void, Void> {
    private static final Map<Kind, Integer> SHUT_OUT = shutOut();
    private static final Set<Kind> BELOW = EnumSet.of(Kind.LESS_THAN, Kind.LESS_THAN_EQUAL);
    private static final Set<Kind> ABOVE = EnumSet.of(Kind.GREATER_THAN, Kind.GREATER_THAN_EQUAL);

    private final List<String> broken = new ArrayList<>();
    private final Map<String, Set<String>> calls = new TreeMap<>();
    private final Trees trees;
    private final CompilationUnitTree unit;
    private String method = "";
    private int ownFields = 0;
    private int insideArguments = 0;

    private Language(Trees trees, CompilationUnitTree unit) {
        this.trees = trees;
        this.unit = unit;
    }

    static List<String> broken(String source) throws IOException {
        JavaFileObject file = new SimpleJavaFileObject(URI.create("string:///AdminRoleAnalyser.java"),
                JavaFileObject.Kind.SOURCE) {
            @Override
            public CharSequence getCharContent(boolean ignoreErrors) {
                return source;
            }
        };
        DiagnosticCollector<JavaFileObject> faults = new DiagnosticCollector<>();
        JavacTask task = (JavacTask) ToolProvider.getSystemJavaCompiler().getTask(
            null, null, faults, List.of("--release", "17", "-proc:none"), null, List.of(file));
        CompilationUnitTree unit = task.parse().iterator().next();
        task.analyze();
        Language language = new Language(Trees.instance(task), unit);
        language.scan(unit, null);
        language.lookAtCalls();
        faults.getDiagnostics().stream().filter(fault -> fault.getKind() == Diagnostic.Kind.ERROR)
            .forEach(fault -> language.broken.add("not compiled: " + fault));
        return language.broken;
    }

    private static Map<Kind, Integer> shutOut() {
        Map<Kind, Integer> kinds = new HashMap<>();
        for (Kind kind : EnumSet.of(Kind.PACKAGE, Kind.INTERFACE, Kind.ENUM, Kind.RECORD, Kind.ANNOTATION_TYPE)) {
            kinds.put(kind, 1);
        }
        for (Kind kind : EnumSet.of(Kind.STRING_LITERAL, Kind.FLOAT_LITERAL, Kind.DOUBLE_LITERAL,
                Kind.PARAMETERIZED_TYPE)) {
            kinds.put(kind, 2);
        }
        for (Kind kind : EnumSet.of(Kind.IMPORT, Kind.NEW_CLASS, Kind.ANNOTATION)) {
            kinds.put(kind, 3);
        }
        kinds.put(Kind.NULL_LITERAL, 4);
        for (Kind kind : EnumSet.of(Kind.THROW, Kind.TRY, Kind.SYNCHRONIZED, Kind.ASSERT, Kind.INSTANCE_OF,
                Kind.LAMBDA_EXPRESSION, Kind.MEMBER_REFERENCE)) {
            kinds.put(kind, 6);
        }
        kinds.put(Kind.ENHANCED_FOR_LOOP, 8);
        return kinds;
    }

    private void tell(int rule, String what, Tree tree) {
        long at = trees.getSourcePositions().getStartPosition(unit, tree);
        String line = at < 0 ? "" : " in line " + unit.getLineMap().getLineNumber(at);
        broken.add(rule + ": " + what + line);
    }

    @Override
    public Void scan(Tree tree, Void none) {
        if (tree != null && SHUT_OUT.containsKey(tree.getKind())) {
            tell(SHUT_OUT.get(tree.getKind()), tree.getKind().toString(), tree);
        }
        return super.scan(tree, none);
    }

    @Override
    public Void visitClass(ClassTree tree, Void none) {
        if (parent().getKind() != Kind.COMPILATION_UNIT || unit.getTypeDecls().size() != 1) {
            tell(1, "more than one class", tree);
        }
        super.visitClass(tree, none);
        if (ownFields > 40) {
            tell(10, "more than forty fields", tree);
        }
        return null;
    }

    @Override
    public Void visitPrimitiveType(PrimitiveTypeTree tree, Void none) {
        if (tree.getPrimitiveTypeKind() == TypeKind.FLOAT || tree.getPrimitiveTypeKind() == TypeKind.DOUBLE) {
            tell(2, "a number that is not whole", tree);
        }
        return super.visitPrimitiveType(tree, none);
    }

    @Override
    public Void visitVariable(VariableTree tree, Void none) {
        TypeMirror type = element(getCurrentPath()).asType();
        TypeMirror part = type.getKind() == TypeKind.ARRAY ? ((ArrayType) type).getComponentType() : type;
        if (!part.getKind().isPrimitive()) {
            tell(2, "the type of " + tree.getName(), tree);
        }
        if (isMember()) {
            lookAtField(tree, type.getKind());
        }
        return super.visitVariable(tree, none);
    }

    private void lookAtField(VariableTree tree, TypeKind type) {
        Set<Modifier> modifiers = tree.getModifiers().getFlags();
        if (!modifiers.contains(Modifier.STATIC)) {
            ownFields++;
            return;
        }
        boolean number = type == TypeKind.INT || type == TypeKind.LONG;
        if (!number || ((VariableElement) element(getCurrentPath())).getConstantValue() == null) {
            tell(5, tree.getName() + " is no constant", tree);
        }
    }

    @Override
    public Void visitBlock(BlockTree tree, Void none) {
        if (isMember() && tree.isStatic()) {
            tell(5, "a static initialiser", tree);
        }
        return super.visitBlock(tree, none);
    }

    @Override
    public Void visitMethod(MethodTree tree, Void none) {
        method = tree.getName().toString();
        calls.computeIfAbsent(method, name -> new TreeSet<>());
        if (tree.getReturnType() != null && tree.getReturnType().getKind() == Kind.ARRAY_TYPE) {
            tell(4, method + " answers an array", tree);
        }
        if (tree.getModifiers().getFlags().contains(Modifier.SYNCHRONIZED) || !tree.getThrows().isEmpty()) {
            tell(6, method + " is synchronized or throws", tree);
        }
        if (tree.getParameters().size() > 7) {
            tell(10, method + " takes more than seven parameters", tree);
        }
        SourcePositions positions = trees.getSourcePositions();
        long first = unit.getLineMap().getLineNumber(positions.getStartPosition(unit, tree));
        long last = positions.getEndPosition(unit, tree) < 0 ? first
            : unit.getLineMap().getLineNumber(positions.getEndPosition(unit, tree));
        if (last - first >= 60) {
            tell(10, method + " is longer than sixty lines", tree);
        }
        return super.visitMethod(tree, none);
    }

    @Override
    public Void visitMemberSelect(MemberSelectTree tree, Void none) {
        boolean lengthOfArray = tree.getIdentifier().contentEquals("length")
            && isArray(new TreePath(getCurrentPath(), tree.getExpression()));
        boolean ownMember = tree.getExpression().toString().equals("this");
        if (!lengthOfArray && !ownMember) {
            tell(3, tree.toString(), tree);
        }
        return super.visitMemberSelect(tree, none);
    }

    @Override
    public Void visitMethodInvocation(MethodInvocationTree tree, Void none) {
        String name = tree.getMethodSelect().toString();
        // The compiler writes this call into every constructor by itself.
        if (name.equals("super")) {
            return null;
        }
        Element called = element(new TreePath(getCurrentPath(), tree.getMethodSelect()));
        if (called == null || !called.getEnclosingElement().getSimpleName().contentEquals("AdminRoleAnalyser")) {
            tell(3, "a call of " + name, tree);
        }
        if (insideArguments > 0) {
            tell(10, "a call of " + name + " inside the arguments of another call", tree);
        }
        if (called != null) {
            calls.computeIfAbsent(method, key -> new TreeSet<>()).add(called.getSimpleName().toString());
        }
        scan(tree.getMethodSelect(), none);
        insideArguments++;
        scan(tree.getArguments(), none);
        insideArguments--;
        return null;
    }

    @Override
    public Void visitNewArray(NewArrayTree tree, Void none) {
        TreePath holder = getCurrentPath().getParentPath();
        boolean field = holder.getLeaf().getKind() == Kind.VARIABLE
            && holder.getParentPath().getLeaf().getKind() == Kind.CLASS;
        if (!field || tree.getDimensions().size() != 1 || lengthOf(tree.getDimensions().get(0)) < 1) {
            tell(4, "an array is made otherwise than in a field's initialiser and of a constant length", tree);
        }
        return super.visitNewArray(tree, none);
    }

    private int lengthOf(ExpressionTree dimension) {
        Object value = null;
        if (dimension instanceof LiteralTree literal) {
            value = literal.getValue();
        } else if (element(new TreePath(getCurrentPath(), dimension)) instanceof VariableElement variable) {
            value = variable.getConstantValue();
        }
        return value instanceof Integer number ? number : -1;
    }

    @Override
    public Void visitAssignment(AssignmentTree tree, Void none) {
        if (isArray(new TreePath(getCurrentPath(), tree.getVariable()))) {
            tell(4, "another array for " + tree.getVariable(), tree);
        }
        return super.visitAssignment(tree, none);
    }

    @Override
    public Void visitBinary(BinaryTree tree, Void none) {
        if (isArray(new TreePath(getCurrentPath(), tree.getLeftOperand()))) {
            tell(4, "an array is compared", tree);
        }
        return super.visitBinary(tree, none);
    }

    @Override
    public Void visitWhileLoop(WhileLoopTree tree, Void none) {
        tell(8, "a loop without a counter of its own", tree);
        return super.visitWhileLoop(tree, none);
    }

    @Override
    public Void visitDoWhileLoop(DoWhileLoopTree tree, Void none) {
        tell(8, "a loop without a counter of its own", tree);
        return super.visitDoWhileLoop(tree, none);
    }

    @Override
    public Void visitForLoop(ForLoopTree tree, Void none) {
        boolean counted = tree.getInitializer().size() == 1 && tree.getUpdate().size() == 1
            && tree.getInitializer().get(0) instanceof VariableTree counter
            && isCounted(tree, counter.getName().toString());
        if (!counted) {
            tell(8, "a loop without a counter of its own", tree);
        }
        return super.visitForLoop(tree, none);
    }

    private static boolean isCounted(ForLoopTree tree, String counter) {
        String update = tree.getUpdate().get(0).toString();
        boolean rises = update.matches(counter + "(\\+\\+| \\+= [1-9]\\d*);");
        boolean falls = update.matches(counter + "(--| -= [1-9]\\d*);");
        return (rises && isBounded(tree.getCondition(), counter, BELOW)
                || falls && isBounded(tree.getCondition(), counter, ABOVE))
            && !changes(tree.getStatement(), counter);
    }

    private static boolean isBounded(ExpressionTree condition, String counter, Set<Kind> comparisons) {
        if (!(condition instanceof BinaryTree both)) {
            return false;
        }
        if (both.getKind() == Kind.CONDITIONAL_AND) {
            return isBounded(both.getLeftOperand(), counter, comparisons)
                || isBounded(both.getRightOperand(), counter, comparisons);
        }
        return comparisons.contains(both.getKind()) && both.getLeftOperand().toString().equals(counter);
    }

    private static boolean changes(Tree tree, String name) {
        boolean[] found = {false};
        new TreeScanner<Void, Void>() {
            @Override
            public Void scan(Tree part, Void none) {
                boolean maybe = part instanceof AssignmentTree || part instanceof CompoundAssignmentTree
                    || part instanceof UnaryTree;
                found[0] |= maybe && part.toString().matches("(\\+\\+|--)?" + name + "\\b(?!\\[).*");
                return super.scan(part, none);
            }
        }.scan(tree, null);
        return found[0];
    }

    private void lookAtCalls() {
        for (String from : calls.keySet()) {
            int depth = depth(from, new ArrayList<>());
            if (depth > 6) {
                broken.add("10: calls from " + from + " go " + depth + " deep");
            }
        }
    }

    private int depth(String from, List<String> way) {
        if (way.contains(from)) {
            broken.add("8: " + from + " comes to call itself");
            return 0;
        }
        way.add(from);
        int deepest = 0;
        for (String to : calls.getOrDefault(from, Set.of())) {
            deepest = Math.max(deepest, depth(to, way));
        }
        way.remove(from);
        return deepest + 1;
    }

    private Tree parent() {
        return getCurrentPath().getParentPath().getLeaf();
    }

    private boolean isMember() {
        return parent().getKind() == Kind.CLASS;
    }

    private Element element(TreePath path) {
        return trees.getElement(path);
    }

    private boolean isArray(TreePath path) {
        TypeMirror type = trees.getTypeMirror(path);
        return type != null && type.getKind() == TypeKind.ARRAY;
    }
}

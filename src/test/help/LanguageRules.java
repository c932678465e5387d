import com.sun.source.tree.*;
import com.sun.source.util.JavacTask;
import com.sun.source.util.SourcePositions;
import com.sun.source.util.TreeScanner;
import com.sun.source.util.Trees;
import java.io.IOException;
import java.io.UncheckedIOException;
import java.net.URI;
import java.util.ArrayList;
import java.util.Collections;
import java.util.HashMap;
import java.util.HashSet;
import java.util.List;
import java.util.Map;
import java.util.Set;
import java.util.TreeMap;
import java.util.TreeSet;
import javax.lang.model.element.Modifier;
import javax.lang.model.type.TypeKind;
import javax.tools.JavaFileObject;
import javax.tools.SimpleJavaFileObject;
import javax.tools.ToolProvider;

// Reads off a source's syntax tree which rules of LANGUAGE.md it breaks. Where a rule leaves more than can be seen in the tree
// (rule 8: a loop that is no "for" with a counter; rule 4: an array made in the constructor), this is stricter than the rule.
final class LanguageRules extends TreeScanner<Void, Void> {
    private static final int MOST_PARAMETERS = 7;
    private static final int MOST_LINES = 60;
    private static final int MOST_DEPTH = 6;
    private static final int MOST_FIELDS = 40;

    private final Set<String> faults = new TreeSet<>();
    private final Map<String, Set<String>> calls = new TreeMap<>();
    private final Map<String, Integer> depths = new HashMap<>();
    private final Set<String> constants = new HashSet<>();
    private final Set<String> arrays = new HashSet<>();
    private final Set<String> fields = new HashSet<>();
    private final CompilationUnitTree unit;
    private final SourcePositions positions;
    // Empty outside of methods.
    private String method = "";
    private boolean inClass = false;
    private boolean inArguments = false;

    private LanguageRules(CompilationUnitTree unit, SourcePositions positions) {
        this.unit = unit;
        this.positions = positions;
    }

    static Set<String> faultsOf(String source) {
        JavaFileObject file = new SimpleJavaFileObject(URI.create("string:///Source.java"), JavaFileObject.Kind.SOURCE) {
            @Override
            public CharSequence getCharContent(boolean ignoreEncodingErrors) {
                return source;
            }
        };
        JavacTask task = (JavacTask) ToolProvider.getSystemJavaCompiler().getTask(null, null, null, null, null, List.of(file));
        try {
            CompilationUnitTree unit = task.parse().iterator().next();
            LanguageRules rules = new LanguageRules(unit, Trees.instance(task).getSourcePositions());
            rules.scan(unit, null);
            rules.callGraph();
            return rules.faults;
        } catch (IOException e) {
            throw new UncheckedIOException(e);
        }
    }

    private void must(boolean holds, int rule, Tree tree) {
        if (!holds) {
            long line = unit.getLineMap().getLineNumber(positions.getStartPosition(unit, tree));
            faults.add("rule " + rule + ", line " + line + ": " + tree.toString().strip().lines().findFirst().orElse(""));
        }
    }

    // ---- what has no place in the program at all

    @Override
    public Void scan(Tree tree, Void none) {
        if (tree != null) {
            switch (tree.getKind()) {
                case ANNOTATION -> must(false, 3, tree);
                case NEW_CLASS -> must(false, 4, tree);
                case THROW, TRY, CATCH, SYNCHRONIZED, ASSERT, INSTANCE_OF, LAMBDA_EXPRESSION, MEMBER_REFERENCE -> must(false, 6, tree);
                case WHILE_LOOP, DO_WHILE_LOOP -> must(false, 8, tree);
                default -> { }
            }
        }
        return super.scan(tree, none);
    }

    // ---- the class and its members (rules 1, 2, 3, 5, 10)

    @Override
    public Void visitCompilationUnit(CompilationUnitTree tree, Void none) {
        must(tree.getPackageName() == null, 1, tree);
        must(tree.getTypeDecls().size() == 1, 1, tree);
        must(tree.getImports().isEmpty(), 3, tree);
        return super.visitCompilationUnit(tree, none);
    }

    @Override
    public Void visitClass(ClassTree tree, Void none) {
        Set<Modifier> modifiers = tree.getModifiers().getFlags();
        must(!inClass && tree.getKind() == Tree.Kind.CLASS, 1, tree);
        must(modifiers.contains(Modifier.PUBLIC) && modifiers.contains(Modifier.FINAL), 1, tree);
        must(tree.getExtendsClause() == null && tree.getImplementsClause().isEmpty(), 1, tree);
        inClass = true;
        Set<String> publicNames = new HashSet<>();
        for (Tree member : tree.getMembers()) {
            must(member.getKind() != Tree.Kind.BLOCK, 5, member);
            if (member instanceof VariableTree field) {
                noteField(field);
            } else if (member instanceof MethodTree open && isPublic(open)) {
                publicNames.add(open.getName().toString());
            }
        }
        must(fields.size() <= MOST_FIELDS, 10, tree);
        for (Tree member : tree.getMembers()) {
            if (member instanceof MethodTree closed && !isPublic(closed)) {
                must(closed.getModifiers().getFlags().contains(Modifier.PRIVATE), 1, closed);
                must(!publicNames.contains(closed.getName().toString()), 1, closed);
            }
        }
        return super.visitClass(tree, none);
    }

    private static boolean isPublic(MethodTree tree) {
        return tree.getModifiers().getFlags().contains(Modifier.PUBLIC);
    }

    private void noteField(VariableTree field) {
        Set<Modifier> modifiers = field.getModifiers().getFlags();
        boolean isStatic = modifiers.contains(Modifier.STATIC);
        must(modifiers.contains(Modifier.PRIVATE) || isStatic && modifiers.contains(Modifier.PUBLIC), 1, field);
        if (isArray(field.getType())) {
            arrays.add(field.getName().toString());
            must(modifiers.contains(Modifier.FINAL), 4, field);
        }
        if (!isStatic) {
            fields.add(field.getName().toString());
            return;
        }
        TypeKind kind = field.getType() instanceof PrimitiveTypeTree plain ? plain.getPrimitiveTypeKind() : TypeKind.NONE;
        must(modifiers.contains(Modifier.FINAL) && (kind == TypeKind.INT || kind == TypeKind.LONG), 5, field);
        constants.add(field.getName().toString());
    }

    @Override
    public Void visitMethod(MethodTree tree, Void none) {
        method = tree.getName().toString();
        calls.putIfAbsent(method, new TreeSet<>());
        long first = unit.getLineMap().getLineNumber(positions.getStartPosition(unit, tree));
        long last = unit.getLineMap().getLineNumber(positions.getEndPosition(unit, tree));
        must(last - first < MOST_LINES, 10, tree);
        must(tree.getParameters().size() <= MOST_PARAMETERS, 10, tree);
        must(tree.getThrows().isEmpty(), 6, tree);
        must(tree.getReturnType() == null || tree.getReturnType() instanceof PrimitiveTypeTree plain && isWhole(plain, true), 2, tree);
        super.visitMethod(tree, none);
        method = "";
        return null;
    }

    // ---- types and what is made of them (rules 2, 3, 4, 6)

    @Override
    public Void visitVariable(VariableTree tree, Void none) {
        Tree type = tree.getType() instanceof ArrayTypeTree array ? array.getType() : tree.getType();
        must(type instanceof PrimitiveTypeTree plain && isWhole(plain, false), 2, tree);
        if (isArray(tree.getType())) {
            arrays.add(tree.getName().toString());
        }
        return super.visitVariable(tree, none);
    }

    private static boolean isArray(Tree type) {
        return type instanceof ArrayTypeTree;
    }

    private static boolean isWhole(PrimitiveTypeTree type, boolean orVoid) {
        TypeKind kind = type.getPrimitiveTypeKind();
        return kind != TypeKind.FLOAT && kind != TypeKind.DOUBLE && (orVoid || kind != TypeKind.VOID);
    }

    @Override
    public Void visitLiteral(LiteralTree tree, Void none) {
        Object value = tree.getValue();
        must(value != null, 4, tree);
        must(!(value instanceof String || value instanceof Float || value instanceof Double), 2, tree);
        return super.visitLiteral(tree, none);
    }

    @Override
    public Void visitNewArray(NewArrayTree tree, Void none) {
        boolean hasLength = tree.getInitializers() == null && tree.getDimensions().size() == 1;
        must(method.isEmpty() && hasLength && isFixedLength(tree.getDimensions().get(0)), 4, tree);
        return super.visitNewArray(tree, none);
    }

    private boolean isFixedLength(ExpressionTree length) {
        if (length instanceof LiteralTree literal) {
            return literal.getValue() instanceof Integer number && number >= 1;
        }
        return isNameIn(length, constants);
    }

    private static boolean isNameIn(Tree tree, Set<String> names) {
        return tree instanceof IdentifierTree name && names.contains(name.getName().toString());
    }

    @Override
    public Void visitBinary(BinaryTree tree, Void none) {
        must(!isNameIn(tree.getLeftOperand(), arrays) && !isNameIn(tree.getRightOperand(), arrays), 4, tree);
        return super.visitBinary(tree, none);
    }

    @Override
    public Void visitAssignment(AssignmentTree tree, Void none) {
        must(!isNameIn(tree.getVariable(), arrays), 4, tree);
        return super.visitAssignment(tree, none);
    }

    @Override
    public Void visitMemberSelect(MemberSelectTree tree, Void none) {
        boolean isLength = tree.getIdentifier().contentEquals("length") && isNameIn(tree.getExpression(), arrays);
        must(isLength || isNameIn(tree.getExpression(), Set.of("this")), 3, tree);
        return super.visitMemberSelect(tree, none);
    }

    @Override
    public Void visitTypeCast(TypeCastTree tree, Void none) {
        must(tree.getType() instanceof PrimitiveTypeTree plain && isWhole(plain, false), 6, tree);
        return super.visitTypeCast(tree, none);
    }

    // ---- loops and calls (rules 3, 8, 10)

    @Override
    public Void visitForLoop(ForLoopTree tree, Void none) {
        must(countsToItsBound(tree), 8, tree);
        return super.visitForLoop(tree, none);
    }

    // Up by one below a bound, or down by one above it; neither the counter nor what the bound is made of changes in the body. A
    // field may be changed by a method that the body calls, so a bound must be made of locals and constants.
    private boolean countsToItsBound(ForLoopTree tree) {
        if (tree.getInitializer().size() != 1 || tree.getUpdate().size() != 1
            || !(tree.getInitializer().get(0) instanceof VariableTree counter)
            || !(tree.getCondition() instanceof BinaryTree condition)
            || !(tree.getUpdate().get(0).getExpression() instanceof UnaryTree step)) {
            return false;
        }
        Set<String> counterName = Set.of(counter.getName().toString());
        boolean up = step.getKind() == Tree.Kind.POSTFIX_INCREMENT
            && (condition.getKind() == Tree.Kind.LESS_THAN || condition.getKind() == Tree.Kind.LESS_THAN_EQUAL);
        boolean down = step.getKind() == Tree.Kind.POSTFIX_DECREMENT
            && (condition.getKind() == Tree.Kind.GREATER_THAN || condition.getKind() == Tree.Kind.GREATER_THAN_EQUAL);
        Names bound = new Names();
        bound.scan(condition.getRightOperand(), null);
        Names body = new Names();
        body.scan(tree.getStatement(), null);
        boolean isFixed = Collections.disjoint(bound.read, fields) && Collections.disjoint(bound.read, body.written);
        return (up || down) && isNameIn(condition.getLeftOperand(), counterName) && isNameIn(step.getExpression(), counterName)
            && isFixed && !bound.hasCall && Collections.disjoint(counterName, body.written);
    }

    // Which names a piece of code reads or writes.
    private static final class Names extends TreeScanner<Void, Void> {
        private final Set<String> read = new HashSet<>();
        private final Set<String> written = new HashSet<>();
        private boolean hasCall = false;

        @Override
        public Void visitIdentifier(IdentifierTree tree, Void none) {
            read.add(tree.getName().toString());
            return null;
        }

        @Override
        public Void visitMethodInvocation(MethodInvocationTree tree, Void none) {
            hasCall = true;
            return super.visitMethodInvocation(tree, none);
        }

        @Override
        public Void visitAssignment(AssignmentTree tree, Void none) {
            written.add(tree.getVariable().toString());
            return super.visitAssignment(tree, none);
        }

        @Override
        public Void visitCompoundAssignment(CompoundAssignmentTree tree, Void none) {
            written.add(tree.getVariable().toString());
            return super.visitCompoundAssignment(tree, none);
        }

        @Override
        public Void visitUnary(UnaryTree tree, Void none) {
            switch (tree.getKind()) {
                case PREFIX_INCREMENT, PREFIX_DECREMENT, POSTFIX_INCREMENT, POSTFIX_DECREMENT -> written.add(tree.getExpression().toString());
                default -> { }
            }
            return super.visitUnary(tree, none);
        }
    }

    @Override
    public Void visitMethodInvocation(MethodInvocationTree tree, Void none) {
        must(tree.getMethodSelect() instanceof IdentifierTree, 3, tree);
        must(!inArguments, 10, tree);
        if (!method.isEmpty()) {
            calls.get(method).add(tree.getMethodSelect().toString());
        }
        boolean before = inArguments;
        inArguments = true;
        scan(tree.getArguments(), none);
        inArguments = before;
        return scan(tree.getMethodSelect(), none);
    }

    private void callGraph() {
        for (String start : calls.keySet()) {
            int depth = depthOf(start, new ArrayList<>());
            if (depth > MOST_DEPTH) {
                faults.add("rule 10: calls from " + start + " go " + depth + " deep");
            }
        }
        for (Set<String> called : calls.values()) {
            for (String name : called) {
                if (!calls.containsKey(name)) {
                    faults.add("rule 3: " + name + " is no method of the class");
                }
            }
        }
    }

    private int depthOf(String name, List<String> path) {
        if (path.contains(name)) {
            faults.add("rule 8: " + name + " comes back to itself");
            return 0;
        }
        if (depths.containsKey(name)) {
            return depths.get(name);
        }
        path.add(name);
        int deepest = 0;
        for (String called : calls.getOrDefault(name, Set.of())) {
            deepest = Math.max(deepest, depthOf(called, path));
        }
        path.remove(path.size() - 1);
        depths.put(name, deepest + 1);
        return deepest + 1;
    }
}

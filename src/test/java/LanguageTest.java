import com.sun.source.tree.ArrayTypeTree;
import com.sun.source.tree.AssignmentTree;
import com.sun.source.tree.BinaryTree;
import com.sun.source.tree.ClassTree;
import com.sun.source.tree.CompilationUnitTree;
import com.sun.source.tree.CompoundAssignmentTree;
import com.sun.source.tree.ExpressionStatementTree;
import com.sun.source.tree.ExpressionTree;
import com.sun.source.tree.ForLoopTree;
import com.sun.source.tree.IdentifierTree;
import com.sun.source.tree.LiteralTree;
import com.sun.source.tree.MemberSelectTree;
import com.sun.source.tree.MethodInvocationTree;
import com.sun.source.tree.MethodTree;
import com.sun.source.tree.NewArrayTree;
import com.sun.source.tree.PrimitiveTypeTree;
import com.sun.source.tree.Tree;
import com.sun.source.tree.Tree.Kind;
import com.sun.source.tree.TypeCastTree;
import com.sun.source.tree.UnaryTree;
import com.sun.source.tree.VariableTree;
import com.sun.source.util.JavacTask;
import com.sun.source.util.SourcePositions;
import com.sun.source.util.TreeScanner;
import com.sun.source.util.Trees;
import java.io.IOException;
import java.nio.file.Path;
import java.util.EnumSet;
import java.util.HashSet;
import java.util.List;
import java.util.Map;
import java.util.Set;
import java.util.TreeMap;
import java.util.TreeSet;
import javax.lang.model.element.Modifier;
import javax.lang.model.type.TypeKind;
import javax.tools.JavaCompiler;
import javax.tools.StandardJavaFileManager;
import javax.tools.ToolProvider;

/** The class keeps to LANGUAGE.md: what of its rules the source shows, by number, often more narrowly than they ask. */
public final class LanguageTest extends TreeScanner<Void, Void> {
    private static final String SOURCE = "src/main/java/ViewRewriter.java";
    private static final int MOST_LINES = 60;
    private static final int MOST_PARAMETERS = 7;
    private static final int MOST_DEPTH = 6;
    private static final int MOST_FIELDS = 40;
    private static final Set<TypeKind> TYPES = EnumSet.of(TypeKind.INT, TypeKind.LONG, TypeKind.SHORT, TypeKind.BYTE,
            TypeKind.CHAR, TypeKind.BOOLEAN);
    /** What the rules leave out, and the loops whose end is harder to see than that of a for with a counter. */
    private static final Set<Kind> NEVER = EnumSet.of(Kind.NEW_CLASS, Kind.THROW, Kind.TRY, Kind.SYNCHRONIZED, Kind.ASSERT,
            Kind.INSTANCE_OF, Kind.LAMBDA_EXPRESSION, Kind.MEMBER_REFERENCE, Kind.NULL_LITERAL, Kind.STRING_LITERAL,
            Kind.FLOAT_LITERAL, Kind.DOUBLE_LITERAL, Kind.IMPORT, Kind.PACKAGE, Kind.WHILE_LOOP, Kind.DO_WHILE_LOOP,
            Kind.ENHANCED_FOR_LOOP);
    private static final Due DUE = new Due();

    private final Map<String, Set<String>> calls = new TreeMap<>();
    private final Set<String> arrays = new HashSet<>();
    private final Set<String> constants = new HashSet<>();
    private CompilationUnitTree unit;
    private SourcePositions positions;
    private String method = "";
    private int fields = 0;
    private int classes = 0;

    public static void main(String[] args) throws IOException {
        new LanguageTest().check();
        DUE.finish();
    }

    private void check() throws IOException {
        JavaCompiler compiler = ToolProvider.getSystemJavaCompiler();
        StandardJavaFileManager files = compiler.getStandardFileManager(null, null, null);
        JavacTask task = (JavacTask) compiler.getTask(null, files, null, List.of("-proc:none"), null,
                files.getJavaFileObjects(Path.of(SOURCE)));
        positions = Trees.instance(task).getSourcePositions();
        int units = 0;
        for (CompilationUnitTree tree : task.parse()) {
            unit = tree;
            units++;
            scan(tree, null);
        }
        DUE.is("files", units, 1);
        DUE.is("rule 1: classes", classes, 1);
        DUE.holds("rule 10: " + fields + " fields beside the constants", fields <= MOST_FIELDS);
        for (String name : calls.keySet()) {
            int depth = depth(name, 0);
            DUE.holds("rule 8: no call from " + name + " comes back to itself", depth < Integer.MAX_VALUE);
            DUE.holds("rule 10: calls from " + name + " go " + depth + " deep", depth <= MOST_DEPTH);
        }
        files.close();
    }

    private void rule(int number, String what, boolean isKept) {
        DUE.holds("rule " + number + " in " + (method.isEmpty() ? "the class" : method) + ": " + what, isKept);
    }

    @Override
    public Void scan(Tree tree, Void none) {
        if (tree != null) {
            DUE.holds("no " + tree.getKind() + ": " + tree, !NEVER.contains(tree.getKind()));
        }
        return super.scan(tree, none);
    }

    @Override
    public Void visitClass(ClassTree tree, Void none) {
        classes++;
        rule(1, "public and final", tree.getModifiers().getFlags().equals(EnumSet.of(Modifier.PUBLIC, Modifier.FINAL)));
        for (Tree member : tree.getMembers()) {
            rule(5, "no initialiser but those of fields", member.getKind() != Kind.BLOCK);
            if (member instanceof VariableTree) {
                visitField((VariableTree) member);
            }
        }
        return super.visitClass(tree, none);
    }

    private void visitField(VariableTree field) {
        Set<Modifier> flags = field.getModifiers().getFlags();
        String name = field.getName().toString();
        if (flags.contains(Modifier.STATIC)) {
            constants.add(name);
            rule(5, name + " is a final int", flags.contains(Modifier.FINAL) && field.getType().toString().equals("int"));
            rule(5, name + " is made of constants", isConstant(field.getInitializer()));
            return;
        }
        fields++;
        rule(1, name + " is private", flags.contains(Modifier.PRIVATE));
        if (field.getType() instanceof ArrayTypeTree) {
            arrays.add(name);
            rule(4, name + " is final", flags.contains(Modifier.FINAL));
            boolean isNew = field.getInitializer() instanceof NewArrayTree;
            rule(4, name + " is made in its initialiser", isNew);
            if (isNew) {
                NewArrayTree made = (NewArrayTree) field.getInitializer();
                rule(4, name + " has one length", made.getDimensions().size() == 1 && made.getInitializers() == null);
                ExpressionTree length = made.getDimensions().get(0);
                boolean isName = length instanceof IdentifierTree && constants.contains(length.toString());
                rule(4, name + " has a literal or a constant for its length", isName || length instanceof LiteralTree);
            }
        }
    }

    private boolean isConstant(ExpressionTree value) {
        if (value instanceof BinaryTree) {
            BinaryTree both = (BinaryTree) value;
            return isConstant(both.getLeftOperand()) && isConstant(both.getRightOperand());
        }
        if (value instanceof UnaryTree) {
            return isConstant(((UnaryTree) value).getExpression());
        }
        return value instanceof LiteralTree || value instanceof IdentifierTree && constants.contains(value.toString());
    }

    @Override
    public Void visitMethod(MethodTree tree, Void none) {
        method = tree.getName().toString();
        rule(1, "no two methods of one name", calls.put(method, new TreeSet<>()) == null);
        Set<Modifier> flags = tree.getModifiers().getFlags();
        rule(1, "public or private", flags.contains(Modifier.PUBLIC) || flags.contains(Modifier.PRIVATE));
        rule(10, "parameters", tree.getParameters().size() <= MOST_PARAMETERS);
        rule(4, "no array is answered", !(tree.getReturnType() instanceof ArrayTypeTree));
        rule(6, "no throws", tree.getThrows().isEmpty());
        long lines = lineOf(positions.getEndPosition(unit, tree)) - lineOf(positions.getStartPosition(unit, tree)) + 1;
        rule(10, lines + " lines", lines <= MOST_LINES);
        super.visitMethod(tree, none);
        method = "";
        return null;
    }

    private long lineOf(long position) {
        return unit.getLineMap().getLineNumber(position);
    }

    @Override
    public Void visitVariable(VariableTree tree, Void none) {
        boolean isArray = tree.getType() instanceof ArrayTypeTree;
        rule(4, "no array but in fields: " + tree, !isArray || method.isEmpty());
        Tree type = isArray ? ((ArrayTypeTree) tree.getType()).getType() : tree.getType();
        boolean isPlain = type instanceof PrimitiveTypeTree
                && TYPES.contains(((PrimitiveTypeTree) type).getPrimitiveTypeKind());
        rule(2, "type of " + tree, isPlain);
        return super.visitVariable(tree, none);
    }

    @Override
    public Void visitNewArray(NewArrayTree tree, Void none) {
        rule(4, "arrays are made in initialisers of fields", method.isEmpty());
        return super.visitNewArray(tree, none);
    }

    @Override
    public Void visitAssignment(AssignmentTree tree, Void none) {
        rule(4, "no array field is assigned: " + tree, !arrays.contains(tree.getVariable().toString()));
        return super.visitAssignment(tree, none);
    }

    @Override
    public Void visitTypeCast(TypeCastTree tree, Void none) {
        rule(6, "casts between numbers alone", tree.getType() instanceof PrimitiveTypeTree);
        return super.visitTypeCast(tree, none);
    }

    @Override
    public Void visitMemberSelect(MemberSelectTree tree, Void none) {
        rule(3, "a name of another class: " + tree, tree.getExpression().toString().equals("this"));
        return super.visitMemberSelect(tree, none);
    }

    @Override
    public Void visitMethodInvocation(MethodInvocationTree tree, Void none) {
        String name = tree.getMethodSelect().toString();
        if (!name.equals("super")) {
            calls.get(method).add(name);
        }
        for (ExpressionTree argument : tree.getArguments()) {
            rule(10, "no call inside " + tree, !argument.toString().contains("("));
        }
        return super.visitMethodInvocation(tree, none);
    }

    /** One counter of the loop's own that goes up by one, below a name that stays the same in the loop. */
    @Override
    public Void visitForLoop(ForLoopTree tree, Void none) {
        boolean counts = tree.getInitializer().size() == 1 && tree.getInitializer().get(0) instanceof VariableTree
                && tree.getCondition() instanceof BinaryTree && tree.getUpdate().size() == 1;
        rule(8, "a loop has one counter", counts);
        if (counts) {
            String counter = ((VariableTree) tree.getInitializer().get(0)).getName().toString();
            BinaryTree until = (BinaryTree) tree.getCondition();
            String bound = until.getRightOperand().toString();
            ExpressionStatementTree update = tree.getUpdate().get(0);
            rule(8, counter + " goes up by one", update.getExpression().toString().equals(counter + "++"));
            rule(8, counter + " stays below its bound", until.getKind() == Kind.LESS_THAN
                    && until.getLeftOperand().toString().equals(counter));
            rule(8, bound + " is a name", until.getRightOperand() instanceof IdentifierTree);
            Set<String> assigned = assignedIn(tree.getStatement());
            rule(8, counter + " and " + bound + " stay", !assigned.contains(counter) && !assigned.contains(bound));
        }
        return super.visitForLoop(tree, none);
    }

    private static Set<String> assignedIn(Tree body) {
        Set<String> assigned = new HashSet<>();
        new TreeScanner<Void, Void>() {
            @Override
            public Void scan(Tree tree, Void none) {
                if (tree instanceof AssignmentTree) {
                    assigned.add(((AssignmentTree) tree).getVariable().toString());
                } else if (tree instanceof CompoundAssignmentTree) {
                    assigned.add(((CompoundAssignmentTree) tree).getVariable().toString());
                } else if (tree instanceof UnaryTree) {
                    assigned.add(((UnaryTree) tree).getExpression().toString());
                }
                return super.scan(tree, none);
            }
        }.scan(body, null);
        return assigned;
    }

    /** How many calls stand inside each other at the most from this one on; no number if one comes back to itself. */
    private int depth(String name, int above) {
        if (above > calls.size()) {
            return Integer.MAX_VALUE;
        }
        int deepest = 0;
        for (String called : calls.getOrDefault(name, Set.of())) {
            rule(3, name + " calls " + called + " of the class itself", calls.containsKey(called));
            deepest = Math.max(deepest, depth(called, above + 1));
        }
        return deepest == Integer.MAX_VALUE ? deepest : deepest + 1;
    }
}

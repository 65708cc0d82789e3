import com.sun.source.tree.BlockTree;
import com.sun.source.tree.ClassTree;
import com.sun.source.tree.CompilationUnitTree;
import com.sun.source.tree.ExpressionTree;
import com.sun.source.tree.LiteralTree;
import com.sun.source.tree.MemberSelectTree;
import com.sun.source.tree.MethodInvocationTree;
import com.sun.source.tree.MethodTree;
import com.sun.source.tree.NewArrayTree;
import com.sun.source.tree.Tree;
import com.sun.source.tree.VariableTree;
import com.sun.source.util.JavacTask;
import com.sun.source.util.SourcePositions;
import com.sun.source.util.TreeScanner;
import com.sun.source.util.Trees;
import java.io.IOException;
import java.nio.file.Path;
import java.util.ArrayList;
import java.util.HashSet;
import java.util.List;
import java.util.Map;
import java.util.Set;
import java.util.TreeMap;
import java.util.TreeSet;
import javax.lang.model.element.Modifier;
import javax.tools.JavaCompiler;
import javax.tools.StandardJavaFileManager;
import javax.tools.ToolProvider;

/**
 * The class keeps to those rules of LANGUAGE.md that can be read off its source: what it is made
 * of (rules 1 to 6), no recursion (8), and the sizes that rule 10 names. That no call throws and
 * that every loop ends (7, 8) is left to the other tests and to the reader.
 */
public final class LanguageTest {
    private static final Path SOURCE = Path.of("src/main/java/DeltaCycles.java");

    private static final Map<Tree.Kind, Integer> RULE_AGAINST = Map.ofEntries(
            Map.entry(Tree.Kind.PACKAGE, 1), Map.entry(Tree.Kind.INTERFACE, 1), Map.entry(Tree.Kind.ENUM, 1),
            Map.entry(Tree.Kind.RECORD, 1), Map.entry(Tree.Kind.ANNOTATION_TYPE, 1),
            Map.entry(Tree.Kind.FLOAT_LITERAL, 2), Map.entry(Tree.Kind.DOUBLE_LITERAL, 2),
            Map.entry(Tree.Kind.STRING_LITERAL, 2), Map.entry(Tree.Kind.PARAMETERIZED_TYPE, 2),
            Map.entry(Tree.Kind.IMPORT, 3), Map.entry(Tree.Kind.NEW_CLASS, 4), Map.entry(Tree.Kind.NULL_LITERAL, 4),
            Map.entry(Tree.Kind.THROW, 6), Map.entry(Tree.Kind.TRY, 6), Map.entry(Tree.Kind.SYNCHRONIZED, 6),
            Map.entry(Tree.Kind.ASSERT, 6), Map.entry(Tree.Kind.INSTANCE_OF, 6),
            Map.entry(Tree.Kind.LAMBDA_EXPRESSION, 6), Map.entry(Tree.Kind.MEMBER_REFERENCE, 6));

    private static final Set<String> NUMBERS = Set.of("int", "long", "short", "byte", "char", "boolean");

    private static final int MOST_LINES = 60;
    private static final int MOST_PARAMETERS = 7;
    private static final int MOST_FIELDS = 40;
    private static final int DEEPEST = 6;

    private static int wrong = 0;

    private static void fault(int rule, String text) {
        wrong++;
        System.out.println("rule " + rule + ": " + text);
    }

    private static final class Reader extends TreeScanner<Void, Void> {
        private final CompilationUnitTree unit;
        private final SourcePositions positions;
        private final Map<String, Set<String>> callsOf = new TreeMap<>();
        private final Set<String> constants = new HashSet<>();
        private String method = "";
        private int classes = 0;
        private int fields = 0;
        private int callsAround = 0;

        Reader(CompilationUnitTree unit, SourcePositions positions) {
            this.unit = unit;
            this.positions = positions;
        }

        private long firstLine(Tree tree) {
            return unit.getLineMap().getLineNumber(positions.getStartPosition(unit, tree));
        }

        private long lastLine(Tree tree) {
            return unit.getLineMap().getLineNumber(positions.getEndPosition(unit, tree));
        }

        private void faultAt(int rule, Tree tree) {
            fault(rule, "line " + firstLine(tree) + ": " + tree);
        }

        @Override
        public Void scan(Tree tree, Void nothing) {
            if (tree != null && RULE_AGAINST.containsKey(tree.getKind())) {
                faultAt(RULE_AGAINST.get(tree.getKind()), tree);
            }
            return super.scan(tree, nothing);
        }

        @Override
        public Void visitClass(ClassTree tree, Void nothing) {
            classes++;
            if (classes > 1 || tree.getExtendsClause() != null || !tree.getImplementsClause().isEmpty()) {
                faultAt(1, tree);
            }
            return super.visitClass(tree, nothing);
        }

        @Override
        public Void visitVariable(VariableTree tree, Void nothing) {
            String type = String.valueOf(tree.getType());
            boolean isArray = type.endsWith("[]");
            if (!NUMBERS.contains(isArray ? type.substring(0, type.length() - 2) : type)) {
                faultAt(2, tree);
            }
            if (method.isEmpty()) {
                checkField(tree, type, isArray);
            }
            return super.visitVariable(tree, nothing);
        }

        private void checkField(VariableTree field, String type, boolean isArray) {
            Set<Modifier> modifiers = field.getModifiers().getFlags();
            boolean isFinal = modifiers.contains(Modifier.FINAL);
            boolean isStatic = modifiers.contains(Modifier.STATIC);
            if (isStatic && !(isFinal && (type.equals("int") || type.equals("long")))) {
                faultAt(5, field);
            }
            if (isArray && !isFinal) {
                faultAt(4, field);
            }
            if (isStatic) {
                constants.add(field.getName().toString());
            } else {
                fields++;
            }
        }

        @Override
        public Void visitBlock(BlockTree tree, Void nothing) {
            if (method.isEmpty()) {
                faultAt(5, tree);
            }
            return super.visitBlock(tree, nothing);
        }

        // Narrower than rule 4, which lets the constructor make arrays too.
        @Override
        public Void visitNewArray(NewArrayTree tree, Void nothing) {
            boolean ofOneLength = tree.getInitializers() == null && tree.getDimensions().size() == 1;
            if (!method.isEmpty() || !ofOneLength || !isConstant(tree.getDimensions().get(0))) {
                faultAt(4, tree);
            }
            return super.visitNewArray(tree, nothing);
        }

        private boolean isConstant(ExpressionTree length) {
            return length instanceof LiteralTree || constants.contains(length.toString());
        }

        // Besides these two, a name behind a dot is one of another class.
        @Override
        public Void visitMemberSelect(MemberSelectTree tree, Void nothing) {
            if (!tree.toString().startsWith("this.") && !tree.toString().endsWith(".length")) {
                faultAt(3, tree);
            }
            return super.visitMemberSelect(tree, nothing);
        }

        @Override
        public Void visitMethod(MethodTree tree, Void nothing) {
            method = tree.getName().toString();
            if (callsOf.put(method, new TreeSet<>()) != null) {
                fault(1, "two methods with the name " + method);
            }
            if (tree.getReturnType() != null && tree.getReturnType().getKind() != Tree.Kind.PRIMITIVE_TYPE) {
                fault(4, method + " answers no number");
            }
            if (tree.getParameters().size() > MOST_PARAMETERS) {
                fault(10, method + " takes too many parameters");
            }
            if (lastLine(tree) - firstLine(tree) >= MOST_LINES) {
                fault(10, method + " is too long");
            }
            super.visitMethod(tree, nothing);
            method = "";
            return null;
        }

        @Override
        public Void visitMethodInvocation(MethodInvocationTree tree, Void nothing) {
            if (callsAround > 0) {
                faultAt(10, tree);
            }
            callsOf.computeIfAbsent(method, name -> new TreeSet<>()).add(tree.getMethodSelect().toString());
            callsAround++;
            super.visitMethodInvocation(tree, nothing);
            callsAround--;
            return null;
        }

        void checkFields() {
            if (fields > MOST_FIELDS) {
                fault(10, fields + " fields");
            }
        }

        void checkCalls() {
            for (String caller : callsOf.keySet()) {
                follow(caller, new ArrayList<>());
            }
        }

        private void follow(String called, List<String> callers) {
            if (!callsOf.containsKey(called)) {
                fault(3, callers + " call " + called);
                return;
            }
            if (callers.contains(called)) {
                fault(8, callers + " call " + called + " again");
                return;
            }
            callers.add(called);
            if (callers.size() > DEEPEST) {
                fault(10, "calls too deep: " + callers);
            }
            for (String next : callsOf.get(called)) {
                follow(next, callers);
            }
            callers.remove(callers.size() - 1);
        }
    }

    public static void main(String[] args) throws IOException {
        JavaCompiler compiler = ToolProvider.getSystemJavaCompiler();
        try (StandardJavaFileManager files = compiler.getStandardFileManager(null, null, null)) {
            JavacTask task = (JavacTask) compiler.getTask(null, files, null, null, null, files.getJavaFileObjects(SOURCE));
            CompilationUnitTree unit = task.parse().iterator().next();
            Reader reader = new Reader(unit, Trees.instance(task).getSourcePositions());
            reader.scan(unit, null);
            reader.checkFields();
            reader.checkCalls();
        }
        System.out.println(wrong == 0 ? "the class keeps to the language" : wrong + " faults");
        if (wrong != 0) {
            System.exit(1);
        }
    }
}

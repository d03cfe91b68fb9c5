import com.sun.source.tree.AssignmentTree;
import com.sun.source.tree.BinaryTree;
import com.sun.source.tree.ClassTree;
import com.sun.source.tree.CompilationUnitTree;
import com.sun.source.tree.ExpressionTree;
import com.sun.source.tree.IdentifierTree;
import com.sun.source.tree.LiteralTree;
import com.sun.source.tree.MemberSelectTree;
import com.sun.source.tree.MethodInvocationTree;
import com.sun.source.tree.MethodTree;
import com.sun.source.tree.NewArrayTree;
import com.sun.source.tree.NewClassTree;
import com.sun.source.tree.ThrowTree;
import com.sun.source.tree.Tree;
import com.sun.source.tree.VariableTree;
import com.sun.source.util.JavacTask;
import com.sun.source.util.TreeScanner;
import com.sun.source.util.Trees;
import java.nio.file.Path;
import java.util.HashMap;
import java.util.HashSet;
import java.util.List;
import java.util.Map;
import java.util.Set;
import java.util.TreeSet;
import javax.lang.model.element.Modifier;
import javax.tools.JavaCompiler;
import javax.tools.StandardJavaFileManager;
import javax.tools.ToolProvider;

/** The rules of LANGUAGE.md that can be read from the source: each node of it is looked at, as the compiler reads it. */
public final class LanguageTest {
    private static final Check check = new Check();
    private static final Path SOURCE = Path.of("src/main/java/Chargehouse.java");

    /** What the rules leave and the class uses; another kind is looked up in LANGUAGE.md ahead of its use. */
    private static final Set<String> KINDS = Set.of(
        "COMPILATION_UNIT", "CLASS", "METHOD", "VARIABLE", "MODIFIERS", "BLOCK", "RETURN", "EXPRESSION_STATEMENT",
        "IF", "FOR_LOOP", "ENHANCED_FOR_LOOP", "SWITCH", "CASE", "THROW", "NEW_CLASS", "NEW_ARRAY", "METHOD_INVOCATION",
        "IDENTIFIER", "MEMBER_SELECT", "ARRAY_ACCESS", "ARRAY_TYPE", "PRIMITIVE_TYPE", "INT_LITERAL", "STRING_LITERAL",
        "BOOLEAN_LITERAL", "NULL_LITERAL", "PARENTHESIZED", "CONDITIONAL_EXPRESSION", "CONDITIONAL_AND",
        "CONDITIONAL_OR", "LOGICAL_COMPLEMENT", "BITWISE_COMPLEMENT", "UNARY_MINUS", "POSTFIX_INCREMENT", "ASSIGNMENT",
        "PLUS_ASSIGNMENT", "OR_ASSIGNMENT", "PLUS", "MINUS", "MULTIPLY", "DIVIDE", "AND", "OR", "LEFT_SHIFT",
        "RIGHT_SHIFT", "LESS_THAN", "LESS_THAN_EQUAL", "GREATER_THAN", "GREATER_THAN_EQUAL", "EQUAL_TO",
        "NOT_EQUAL_TO");
    private static final Set<String> LIBRARY = Set.of("Math.min", "Integer.bitCount");
    private static final Set<String> THROWN = Set.of("IllegalStateException", "IllegalArgumentException",
        "IndexOutOfBoundsException");
    /** Where the rooms of an object are made: all that is kept is made here, and a question makes nothing. */
    private static final Set<String> MAKERS = Set.of("<init>", "field", "offence", "file", "item");

    public static void main(String[] args) throws Exception {
        JavaCompiler compiler = ToolProvider.getSystemJavaCompiler();
        StandardJavaFileManager files = compiler.getStandardFileManager(null, null, null);
        JavacTask task = (JavacTask) compiler.getTask(null, files, null, List.of("-proc:none"), null,
            files.getJavaFileObjects(SOURCE));
        CompilationUnitTree unit = task.parse().iterator().next();
        Reader reader = new Reader(unit, Trees.instance(task));
        reader.scan(unit, null);
        theFile(unit);
        reader.sizes();
        reader.calls();
        check.report("LanguageTest");
    }

    private static void theFile(CompilationUnitTree unit) {
        check.is("1: no package", true, unit.getPackageName() == null);
        check.is("4: no imports", 0, unit.getImports().size());
        check.is("1: one class", 1, unit.getTypeDecls().size());
    }

    private static final class Reader extends TreeScanner<Void, Void> {
        private final CompilationUnitTree unit;
        private final Trees trees;
        private final Set<String> kinds = new TreeSet<>();
        private final Set<String> own = new HashSet<>();
        private final Set<String> classes = new HashSet<>();
        private final Map<String, Set<String>> called = new HashMap<>();
        private final Set<String> made = new TreeSet<>();
        private String method = "field";
        private int thrown;

        Reader(CompilationUnitTree unit, Trees trees) {
            this.unit = unit;
            this.trees = trees;
        }

        @Override
        public Void scan(Tree tree, Void nothing) {
            if (tree != null) {
                kinds.add(tree.getKind().name());
            }
            return super.scan(tree, nothing);
        }

        @Override
        public Void visitClass(ClassTree tree, Void nothing) {
            Set<Modifier> flags = tree.getModifiers().getFlags();
            boolean isInside = !classes.isEmpty();
            classes.add(tree.getSimpleName().toString());
            if (isInside) {
                check.is("1: inside, static and hidden, " + tree.getSimpleName(), true,
                    flags.contains(Modifier.STATIC) && !flags.contains(Modifier.PUBLIC));
            }
            int fields = 0;
            for (Tree member : tree.getMembers()) {
                if (member instanceof VariableTree field) {
                    Set<Modifier> its = field.getModifiers().getFlags();
                    boolean isStatic = its.contains(Modifier.STATIC);
                    fields += isStatic ? 0 : 1;
                    String type = field.getType().toString();
                    check.is("5: " + field.getName() + " is a constant, or no static one", true, !isStatic
                        || its.contains(Modifier.FINAL) && Set.of("int", "long", "boolean", "char").contains(type));
                }
            }
            check.is("11: fields of " + tree.getSimpleName() + ", " + fields, true, fields <= 20);
            return super.visitClass(tree, nothing);
        }

        @Override
        public Void visitMethod(MethodTree tree, Void nothing) {
            method = tree.getName().toString();
            own.add(method);
            long lines = lineOf(trees.getSourcePositions().getEndPosition(unit, tree))
                - lineOf(trees.getSourcePositions().getStartPosition(unit, tree)) + 1;
            check.is("11: lines of " + method + ", " + lines, true, lines <= 60);
            check.is("11: parameters of " + method, true, tree.getParameters().size() <= 7);
            super.visitMethod(tree, nothing);
            method = "field";
            return null;
        }

        private long lineOf(long position) {
            return unit.getLineMap().getLineNumber(position);
        }

        @Override
        public Void visitThrow(ThrowTree tree, Void nothing) {
            thrown++;
            check.is("6: no throw in a constructor", false, method.equals("<init>"));
            boolean isNew = tree.getExpression() instanceof NewClassTree;
            check.is("6: throw new, in " + method, true, isNew);
            if (tree.getExpression() instanceof NewClassTree one) {
                check.is("6: thrown is " + one.getIdentifier(), true, THROWN.contains(one.getIdentifier().toString()));
                boolean isWritten = one.getArguments().stream().allMatch(text -> text instanceof LiteralTree);
                check.is("6: a written text, in " + method, true, one.getArguments().size() <= 1 && isWritten);
            }
            return null;
        }

        @Override
        public Void visitNewClass(NewClassTree tree, Void nothing) {
            check.is("12: new " + tree.getIdentifier() + " in " + method, true, MAKERS.contains(method));
            made.add(tree.getIdentifier().toString());
            check.is("2: no anonymous class", true, tree.getClassBody() == null);
            return super.visitNewClass(tree, nothing);
        }

        @Override
        public Void visitNewArray(NewArrayTree tree, Void nothing) {
            check.is("12: a new array in " + method, true, MAKERS.contains(method));
            check.is("3: an array of one dimension", 1, tree.getDimensions().size());
            check.is("7: the length of a new array is a constant", true,
                tree.getDimensions().get(0).toString().matches("[A-Z_]+"));
            return super.visitNewArray(tree, nothing);
        }

        @Override
        public Void visitMethodInvocation(MethodInvocationTree tree, Void nothing) {
            ExpressionTree select = tree.getMethodSelect();
            String name = select instanceof IdentifierTree simple ? simple.getName().toString()
                : ((MemberSelectTree) select).getIdentifier().toString();
            if (!LIBRARY.contains(select.toString()) && !name.equals("super")) {
                called.computeIfAbsent(method, key -> new TreeSet<>()).add(name);
            }
            return super.visitMethodInvocation(tree, nothing);
        }

        @Override
        public Void visitBinary(BinaryTree tree, Void nothing) {
            if (tree.getKind() == Tree.Kind.DIVIDE || tree.getKind() == Tree.Kind.REMAINDER) {
                check.is("7: the divisor is a number, not 0, " + tree, true,
                    tree.getRightOperand().toString().matches("[1-9][0-9]*"));
            }
            if (tree.getKind() == Tree.Kind.PLUS) {
                check.is("10: no texts are joined by +", false, tree.toString().contains("\""));
            }
            return super.visitBinary(tree, nothing);
        }

        @Override
        public Void visitAssignment(AssignmentTree tree, Void nothing) {
            String changed = tree.getVariable().toString();
            check.is("5: no constant is changed", false, changed.matches("[A-Z_]{2,}.*"));
            return super.visitAssignment(tree, nothing);
        }

        void sizes() {
            Set<String> unknown = new TreeSet<>(kinds);
            unknown.removeAll(KINDS);
            check.note("kinds of what is written that are not looked up", "[]", unknown.toString());
            check.is("11: classes", true, classes.size() <= 12);
            check.is("4: objects of its own classes, " + made, true, classes.containsAll(made));
            check.is("6: something is thrown", true, thrown > 0);
        }

        /** By the names: a name that two methods bear counts as one, which can only make it deeper. */
        void calls() {
            for (Set<String> names : called.values()) {
                check.is("4: methods of its own, " + names, true, own.containsAll(names));
            }
            for (String name : called.keySet()) {
                int depth = depthFrom(name, 0);
                check.is("8, 11: calls below " + name + ", " + depth, true, depth <= 8);
            }
        }

        private int depthFrom(String name, int above) {
            int deepest = 1;
            for (String next : above > 20 ? Set.<String>of() : called.getOrDefault(name, Set.of())) {
                deepest = Math.max(deepest, 1 + depthFrom(next, above + 1));
            }
            return deepest;
        }
    }
}

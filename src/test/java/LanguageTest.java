import com.sun.source.tree.*;
import com.sun.source.util.JavacTask;
import com.sun.source.util.SourcePositions;
import com.sun.source.util.TreePathScanner;
import com.sun.source.util.Trees;
import java.io.IOException;
import java.util.EnumSet;
import java.util.HashMap;
import java.util.List;
import java.util.Map;
import java.util.Set;
import java.util.TreeMap;
import java.util.TreeSet;
import javax.lang.model.element.Modifier;
import javax.lang.model.type.TypeKind;
import javax.tools.JavaCompiler;
import javax.tools.StandardJavaFileManager;
import javax.tools.ToolProvider;

// The source keeps to LANGUAGE.md, as far as its syntax tree tells; a fault is
// printed behind its rule's number. FaceTest has rules 1 and 5.
public final class LanguageTest {
    private static final String SOURCE = "src/main/java/ParsimonyPhylogeny.java";
    private static final Set<TypeKind> NUMBERS = EnumSet.of(TypeKind.INT, TypeKind.LONG, TypeKind.SHORT,
            TypeKind.BYTE, TypeKind.CHAR, TypeKind.BOOLEAN);
    private static final Set<Tree.Kind> LITERALS = EnumSet.of(Tree.Kind.INT_LITERAL, Tree.Kind.LONG_LITERAL,
            Tree.Kind.CHAR_LITERAL, Tree.Kind.BOOLEAN_LITERAL);
    private static final Set<Tree.Kind> NEVER = EnumSet.of(Tree.Kind.THROW, Tree.Kind.TRY, Tree.Kind.CATCH,
            Tree.Kind.SYNCHRONIZED, Tree.Kind.ASSERT, Tree.Kind.INSTANCE_OF, Tree.Kind.LAMBDA_EXPRESSION,
            Tree.Kind.MEMBER_REFERENCE);
    private static final Set<Tree.Kind> COMPARISONS = EnumSet.of(Tree.Kind.LESS_THAN, Tree.Kind.LESS_THAN_EQUAL,
            Tree.Kind.GREATER_THAN, Tree.Kind.GREATER_THAN_EQUAL);
    private static final int MOST_PARAMETERS = 7;
    private static final int MOST_LINES = 60;
    private static final int MOST_DEPTH = 6;
    private static final int MOST_FIELDS = 40;

    private static int wrong = 0;

    private static void check(boolean holds, int rule, String what) {
        if (!holds) {
            wrong++;
            System.out.println("rule " + rule + ": " + what);
        }
    }

    private static final class Rules extends TreePathScanner<Void, Void> {
        final Map<String, MethodTree> methods = new HashMap<>();
        final Map<String, VariableTree> fields = new HashMap<>();
        final Map<String, Set<String>> calls = new TreeMap<>();
        final CompilationUnitTree unit;
        final SourcePositions positions;
        String method = "";

        Rules(CompilationUnitTree unit, SourcePositions positions) {
            this.unit = unit;
            this.positions = positions;
        }

        private long line(long position) {
            return unit.getLineMap().getLineNumber(position);
        }

        private String at(Tree tree) {
            return "line " + line(positions.getStartPosition(unit, tree)) + ": " + tree;
        }

        private static boolean isArray(Tree type) {
            return type.getKind() == Tree.Kind.ARRAY_TYPE;
        }

        private static boolean isNumber(Tree type) {
            return type instanceof PrimitiveTypeTree plain && NUMBERS.contains(plain.getPrimitiveTypeKind());
        }

        private static boolean isConstant(VariableTree field) {
            return field.getModifiers().getFlags().contains(Modifier.STATIC);
        }

        @Override
        public Void scan(Tree tree, Void nothing) {
            if (tree != null) {
                check(!NEVER.contains(tree.getKind()), 6, at(tree));
            }
            return super.scan(tree, nothing);
        }

        @Override
        public Void visitCompilationUnit(CompilationUnitTree tree, Void nothing) {
            check(tree.getTypeDecls().size() == 1, 1, "one class in the file");
            check(tree.getPackage() == null, 1, "no package line");
            check(tree.getImports().isEmpty(), 3, "nothing is imported");
            return super.visitCompilationUnit(tree, nothing);
        }

        @Override
        public Void visitClass(ClassTree tree, Void nothing) {
            check(getCurrentPath().getParentPath().getLeaf() == unit, 1, at(tree));
            int held = 0;
            for (Tree member : tree.getMembers()) {
                if (member instanceof MethodTree one) {
                    methods.put(one.getName().toString(), one);
                } else if (member instanceof VariableTree field) {
                    fields.put(field.getName().toString(), field);
                    held += isConstant(field) ? 0 : 1;
                } else {
                    check(false, 5, at(member));
                }
            }
            check(held <= MOST_FIELDS, 10, held + " fields");
            return super.visitClass(tree, nothing);
        }

        @Override
        public Void visitMethod(MethodTree tree, Void nothing) {
            method = tree.getName().toString();
            calls.put(method, new TreeSet<>());
            long first = line(positions.getStartPosition(unit, tree));
            long last = line(positions.getEndPosition(unit, tree));
            check(last - first < MOST_LINES, 10, method + " has " + (last - first + 1) + " lines");
            check(tree.getParameters().size() <= MOST_PARAMETERS, 10, method + " has too many parameters");
            Tree answer = tree.getReturnType();
            boolean plain = answer == null || isNumber(answer)
                    || answer instanceof PrimitiveTypeTree type && type.getPrimitiveTypeKind() == TypeKind.VOID;
            check(plain, answer != null && isArray(answer) ? 4 : 2, method + " answers " + answer);
            super.visitMethod(tree, nothing);
            method = "";
            return null;
        }

        @Override
        public Void visitVariable(VariableTree tree, Void nothing) {
            Tree type = tree.getType();
            boolean array = type != null && isArray(type);
            Tree held = array ? ((ArrayTypeTree) type).getType() : type;
            check(held != null && isNumber(held), 2, at(tree));
            boolean field = fields.get(tree.getName().toString()) == tree;
            // A final array field that is made in its initialiser is made
            // once, first of all, and can't be assigned to later.
            if (field && array) {
                check(tree.getModifiers().getFlags().contains(Modifier.FINAL), 4, at(tree));
                check(tree.getInitializer() instanceof NewArrayTree, 4, at(tree));
            }
            return super.visitVariable(tree, nothing);
        }

        @Override
        public Void visitNewArray(NewArrayTree tree, Void nothing) {
            Tree around = getCurrentPath().getParentPath().getLeaf();
            check(fields.containsValue(around), 4, at(tree));
            List<? extends ExpressionTree> lengths = tree.getDimensions();
            check(tree.getInitializers() == null && lengths.size() == 1, 4, at(tree));
            for (ExpressionTree length : lengths) {
                VariableTree constant = fields.get(length.toString());
                boolean named = constant != null && isConstant(constant);
                check(named || length.getKind() == Tree.Kind.INT_LITERAL, 4, at(tree));
                String value = String.valueOf(named ? constant.getInitializer() : length);
                check(value.matches("[1-9][0-9]*"), 4, at(tree));
            }
            return super.visitNewArray(tree, nothing);
        }

        @Override
        public Void visitNewClass(NewClassTree tree, Void nothing) {
            check(false, 4, at(tree));
            return super.visitNewClass(tree, nothing);
        }

        @Override
        public Void visitLiteral(LiteralTree tree, Void nothing) {
            check(LITERALS.contains(tree.getKind()), tree.getKind() == Tree.Kind.NULL_LITERAL ? 4 : 2, at(tree));
            return super.visitLiteral(tree, nothing);
        }

        @Override
        public Void visitTypeCast(TypeCastTree tree, Void nothing) {
            check(isNumber(tree.getType()), 6, at(tree));
            return super.visitTypeCast(tree, nothing);
        }

        // With no member of anything else, a class of the library can stand only
        // where a type stands, and types are looked at there.
        @Override
        public Void visitMemberSelect(MemberSelectTree tree, Void nothing) {
            boolean own = tree.getExpression().toString().equals("this");
            check(own || tree.getIdentifier().contentEquals("length"), 3, at(tree));
            return super.visitMemberSelect(tree, nothing);
        }

        @Override
        public Void visitMethodInvocation(MethodInvocationTree tree, Void nothing) {
            String called = tree.getMethodSelect().toString().replaceFirst("^this\\.", "");
            check(methods.containsKey(called), 3, at(tree));
            calls.computeIfAbsent(method, key -> new TreeSet<>()).add(called);
            for (Tree around : getCurrentPath().getParentPath()) {
                check(around.getKind() != Tree.Kind.METHOD_INVOCATION, 10, at(around));
            }
            return super.visitMethodInvocation(tree, nothing);
        }

        @Override
        public Void visitForLoop(ForLoopTree tree, Void nothing) {
            checkEnd(tree, tree.getCondition());
            check(tree.getUpdate().size() == 1, 8, at(tree));
            return super.visitForLoop(tree, nothing);
        }

        @Override
        public Void visitWhileLoop(WhileLoopTree tree, Void nothing) {
            checkEnd(tree, ((ParenthesizedTree) tree.getCondition()).getExpression());
            return super.visitWhileLoop(tree, nothing);
        }

        @Override
        public Void visitDoWhileLoop(DoWhileLoopTree tree, Void nothing) {
            checkEnd(tree, ((ParenthesizedTree) tree.getCondition()).getExpression());
            return super.visitDoWhileLoop(tree, nothing);
        }

        // A counter against a bound, at the left of every && of the condition.
        private void checkEnd(Tree loop, ExpressionTree condition) {
            ExpressionTree first = condition;
            while (first != null && first.getKind() == Tree.Kind.CONDITIONAL_AND) {
                first = ((BinaryTree) first).getLeftOperand();
            }
            check(first != null && COMPARISONS.contains(first.getKind()), 8, at(loop));
        }

        // The longest chain of calls grows in each round until it is found; a
        // method that reaches itself makes it grow without end.
        void checkDepth() {
            Map<String, Integer> depth = new HashMap<>();
            calls.keySet().forEach(name -> depth.put(name, 1));
            for (int round = 0; round <= calls.size(); round++) {
                calls.forEach((name, below) -> {
                    for (String called : below) {
                        depth.merge(name, depth.getOrDefault(called, 1) + 1, Math::max);
                    }
                });
            }
            depth.forEach((name, deep) -> {
                check(deep <= calls.size(), 8, name + " leads into a recursion");
                check(deep <= MOST_DEPTH, 10, name + " calls " + deep + " deep");
            });
        }
    }

    public static void main(String[] args) throws IOException {
        JavaCompiler compiler = ToolProvider.getSystemJavaCompiler();
        try (StandardJavaFileManager files = compiler.getStandardFileManager(null, null, null)) {
            JavacTask task = (JavacTask) compiler.getTask(null, files, null, List.of("--release", "17"), null,
                    files.getJavaFileObjects(SOURCE));
            CompilationUnitTree unit = task.parse().iterator().next();
            Rules rules = new Rules(unit, Trees.instance(task).getSourcePositions());
            rules.scan(unit, null);
            rules.checkDepth();
            System.out.println(rules.calls.size() + " methods looked at, " + wrong + " faults");
        }
        if (wrong != 0) {
            System.exit(1);
        }
    }
}

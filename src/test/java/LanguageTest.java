import com.sun.source.tree.ArrayTypeTree;
import com.sun.source.tree.AssertTree;
import com.sun.source.tree.AssignmentTree;
import com.sun.source.tree.BinaryTree;
import com.sun.source.tree.BlockTree;
import com.sun.source.tree.ClassTree;
import com.sun.source.tree.CompilationUnitTree;
import com.sun.source.tree.CompoundAssignmentTree;
import com.sun.source.tree.DoWhileLoopTree;
import com.sun.source.tree.EnhancedForLoopTree;
import com.sun.source.tree.ExpressionTree;
import com.sun.source.tree.ForLoopTree;
import com.sun.source.tree.IdentifierTree;
import com.sun.source.tree.InstanceOfTree;
import com.sun.source.tree.LambdaExpressionTree;
import com.sun.source.tree.LiteralTree;
import com.sun.source.tree.MemberReferenceTree;
import com.sun.source.tree.MemberSelectTree;
import com.sun.source.tree.MethodInvocationTree;
import com.sun.source.tree.MethodTree;
import com.sun.source.tree.NewArrayTree;
import com.sun.source.tree.NewClassTree;
import com.sun.source.tree.PrimitiveTypeTree;
import com.sun.source.tree.SynchronizedTree;
import com.sun.source.tree.ThrowTree;
import com.sun.source.tree.Tree;
import com.sun.source.tree.TryTree;
import com.sun.source.tree.TypeCastTree;
import com.sun.source.tree.UnaryTree;
import com.sun.source.tree.VariableTree;
import com.sun.source.tree.WhileLoopTree;
import com.sun.source.util.JavacTask;
import com.sun.source.util.SourcePositions;
import com.sun.source.util.TreeScanner;
import com.sun.source.util.Trees;
import java.io.File;
import java.io.IOException;
import java.util.ArrayList;
import java.util.Collections;
import java.util.HashMap;
import java.util.List;
import java.util.Map;
import java.util.Set;
import java.util.TreeSet;
import javax.lang.model.element.Modifier;
import javax.lang.model.type.TypeKind;
import javax.tools.JavaCompiler;
import javax.tools.JavaFileObject;
import javax.tools.StandardJavaFileManager;
import javax.tools.ToolProvider;

/**
 * The source of the class, read as a tree, keeps to the rules of LANGUAGE.md that a source can show.
 * Where a rule leaves a choice that the class has no need of (a while loop, an array made in the constructor,
 * a local array), the test refuses it, since that is simpler to see than the whole rule.
 * Rule 7 is left to the tests that make calls with wrong arguments.
 */
public final class LanguageTest {
    private static final File SOURCE = new File("src/main/java/TourDesk.java");
    private static final int MOST_PARAMETERS = 7;
    private static final int MOST_LINES = 60;
    private static final int MOST_DEEP = 6;
    private static final int MOST_FIELDS = 40;

    private static final Set<Tree.Kind> STEPS = Set.of(Tree.Kind.PREFIX_INCREMENT, Tree.Kind.PREFIX_DECREMENT,
        Tree.Kind.POSTFIX_INCREMENT, Tree.Kind.POSTFIX_DECREMENT);

    private static int wrong = 0;

    private static void fault(int rule, String text) {
        wrong++;
        System.out.println(SOURCE + " against rule " + rule + ": " + text);
    }

    private static void must(boolean kept, int rule, String text) {
        if (!kept) {
            fault(rule, text);
        }
    }

    private static boolean isNumberType(Tree type) {
        if (!(type instanceof PrimitiveTypeTree)) {
            return false;
        }
        TypeKind kind = ((PrimitiveTypeTree) type).getPrimitiveTypeKind();
        return kind != TypeKind.FLOAT && kind != TypeKind.DOUBLE && kind != TypeKind.VOID;
    }

    /** What is to be refused wherever it stands in the class. */
    private static final class Everywhere extends TreeScanner<Void, Void> {
        private final Set<String> ownMethods;

        Everywhere(Set<String> ownMethods) {
            this.ownMethods = ownMethods;
        }

        @Override
        public Void visitLiteral(LiteralTree tree, Void none) {
            Object value = tree.getValue();
            boolean number = value instanceof Integer || value instanceof Long;
            must(number || value instanceof Character || value instanceof Boolean, 2, "the literal " + tree);
            return super.visitLiteral(tree, none);
        }

        @Override
        public Void visitMethodInvocation(MethodInvocationTree tree, Void none) {
            String called = tree.getMethodSelect().toString();
            must(ownMethods.contains(called), 3, "the call " + tree);
            must(tree.getTypeArguments().isEmpty(), 2, "the call " + tree);
            for (ExpressionTree argument : tree.getArguments()) {
                must(callsIn(argument).isEmpty(), 10, "a call inside the arguments of " + tree);
            }
            return super.visitMethodInvocation(tree, none);
        }

        @Override
        public Void visitMemberSelect(MemberSelectTree tree, Void none) {
            must(tree.getExpression().toString().equals("this"), 3, "a member of something else: " + tree);
            return super.visitMemberSelect(tree, none);
        }

        @Override
        public Void visitNewClass(NewClassTree tree, Void none) {
            fault(4, "an object is made: " + tree);
            return super.visitNewClass(tree, none);
        }

        @Override
        public Void visitThrow(ThrowTree tree, Void none) {
            fault(6, "throw");
            return super.visitThrow(tree, none);
        }

        @Override
        public Void visitTry(TryTree tree, Void none) {
            fault(6, "try");
            return super.visitTry(tree, none);
        }

        @Override
        public Void visitSynchronized(SynchronizedTree tree, Void none) {
            fault(6, "synchronized");
            return super.visitSynchronized(tree, none);
        }

        @Override
        public Void visitAssert(AssertTree tree, Void none) {
            fault(6, "assert");
            return super.visitAssert(tree, none);
        }

        @Override
        public Void visitInstanceOf(InstanceOfTree tree, Void none) {
            fault(6, "instanceof");
            return super.visitInstanceOf(tree, none);
        }

        @Override
        public Void visitLambdaExpression(LambdaExpressionTree tree, Void none) {
            fault(6, "a lambda");
            return super.visitLambdaExpression(tree, none);
        }

        @Override
        public Void visitMemberReference(MemberReferenceTree tree, Void none) {
            fault(6, "a method reference");
            return super.visitMemberReference(tree, none);
        }

        @Override
        public Void visitTypeCast(TypeCastTree tree, Void none) {
            must(isNumberType(tree.getType()), 6, "the cast " + tree);
            return super.visitTypeCast(tree, none);
        }

        @Override
        public Void visitWhileLoop(WhileLoopTree tree, Void none) {
            fault(8, "a loop without a counter of its own: while " + tree.getCondition());
            return super.visitWhileLoop(tree, none);
        }

        @Override
        public Void visitDoWhileLoop(DoWhileLoopTree tree, Void none) {
            fault(8, "a loop without a counter of its own: do .. while " + tree.getCondition());
            return super.visitDoWhileLoop(tree, none);
        }

        @Override
        public Void visitEnhancedForLoop(EnhancedForLoopTree tree, Void none) {
            fault(8, "a loop without a counter of its own: for over " + tree.getExpression());
            return super.visitEnhancedForLoop(tree, none);
        }

        @Override
        public Void visitForLoop(ForLoopTree tree, Void none) {
            checkLoop(tree);
            return super.visitForLoop(tree, none);
        }
    }

    /** The loop counts one variable of its own up to a bound and does not change it otherwise. */
    private static void checkLoop(ForLoopTree loop) {
        if (loop.getInitializer().size() != 1 || !(loop.getInitializer().get(0) instanceof VariableTree)
            || loop.getUpdate().size() != 1 || loop.getCondition() == null) {
            fault(8, "a loop that is not led by one counter: " + loop);
            return;
        }
        String counter = ((VariableTree) loop.getInitializer().get(0)).getName().toString();
        String update = loop.getUpdate().get(0).getExpression().toString();
        must(update.equals(counter + "++"), 8, counter + " is not counted up by one: " + update);
        Set<String> changed = changedIn(loop.getStatement());
        must(!changed.contains(counter), 8, counter + " is changed inside its loop");
        must(boundsCounter(loop.getCondition(), counter, changed), 8, "no bound is seen in " + loop.getCondition());
    }

    /** The counter against a bound that stays as it is, alone or with other reasons to stop beside it. */
    private static boolean boundsCounter(ExpressionTree condition, String counter, Set<String> changed) {
        if (!(condition instanceof BinaryTree)) {
            return false;
        }
        BinaryTree both = (BinaryTree) condition;
        ExpressionTree left = both.getLeftOperand();
        ExpressionTree right = both.getRightOperand();
        if (both.getKind() == Tree.Kind.CONDITIONAL_AND) {
            return boundsCounter(left, counter, changed) || boundsCounter(right, counter, changed);
        }
        return both.getKind() == Tree.Kind.LESS_THAN && left.toString().equals(counter)
            && callsIn(right).isEmpty() && Collections.disjoint(namesIn(right), changed);
    }

    private static Set<String> namesIn(Tree part) {
        Set<String> names = new TreeSet<>();
        part.accept(new TreeScanner<Void, Void>() {
            @Override
            public Void visitIdentifier(IdentifierTree tree, Void none) {
                names.add(tree.getName().toString());
                return super.visitIdentifier(tree, none);
            }
        }, null);
        return names;
    }

    private static Set<String> changedIn(Tree body) {
        Set<String> changed = new TreeSet<>();
        body.accept(new TreeScanner<Void, Void>() {
            @Override
            public Void visitAssignment(AssignmentTree tree, Void none) {
                changed.add(tree.getVariable().toString());
                return super.visitAssignment(tree, none);
            }

            @Override
            public Void visitCompoundAssignment(CompoundAssignmentTree tree, Void none) {
                changed.add(tree.getVariable().toString());
                return super.visitCompoundAssignment(tree, none);
            }

            @Override
            public Void visitUnary(UnaryTree tree, Void none) {
                if (STEPS.contains(tree.getKind())) {
                    changed.add(tree.getExpression().toString());
                }
                return super.visitUnary(tree, none);
            }
        }, null);
        return changed;
    }

    private static Set<String> callsIn(Tree part) {
        Set<String> calls = new TreeSet<>();
        part.accept(new TreeScanner<Void, Void>() {
            @Override
            public Void visitMethodInvocation(MethodInvocationTree tree, Void none) {
                calls.add(tree.getMethodSelect().toString());
                return super.visitMethodInvocation(tree, none);
            }
        }, null);
        return calls;
    }

    private static boolean makesArray(Tree part) {
        boolean[] found = {false};
        part.accept(new TreeScanner<Void, Void>() {
            @Override
            public Void visitNewArray(NewArrayTree tree, Void none) {
                found[0] = true;
                return super.visitNewArray(tree, none);
            }
        }, null);
        return found[0];
    }

    private static void checkField(VariableTree field) {
        Set<Modifier> modifiers = field.getModifiers().getFlags();
        String name = field.getName().toString();
        if (!(field.getType() instanceof ArrayTypeTree)) {
            must(isNumberType(field.getType()), 2, "the type of the field " + name);
            if (modifiers.contains(Modifier.STATIC)) {
                ExpressionTree value = field.getInitializer();
                must(value != null && callsIn(value).isEmpty(), 5, "no constant: " + name);
            }
            return;
        }
        must(isNumberType(((ArrayTypeTree) field.getType()).getType()), 2, "the type of the field " + name);
        must(!modifiers.contains(Modifier.STATIC), 5, "a static array: " + name);
        must(modifiers.contains(Modifier.FINAL), 4, "an array that a method could assign to: " + name);
        must(isNewOfOneConstant(field.getInitializer()), 4, "an array without a constant length: " + name);
    }

    private static boolean isNewOfOneConstant(ExpressionTree initializer) {
        if (!(initializer instanceof NewArrayTree) || ((NewArrayTree) initializer).getInitializers() != null) {
            return false;
        }
        List<? extends ExpressionTree> lengths = ((NewArrayTree) initializer).getDimensions();
        return lengths.size() == 1 && (lengths.get(0) instanceof LiteralTree
            || lengths.get(0) instanceof IdentifierTree && lengths.get(0).toString().matches("[A-Z_]+"));
    }

    private static void checkMethod(MethodTree method, long lines) {
        String name = method.getName().toString();
        must(method.getParameters().size() <= MOST_PARAMETERS, 10, name + " takes too many parameters");
        must(lines <= MOST_LINES, 10, name + " has " + lines + " lines");
        must(!makesArray(method), 4, name + " makes an array");
        must(method.getThrows().isEmpty() && method.getTypeParameters().isEmpty(), 2, "the head of " + name);
        Tree answer = method.getReturnType();
        must(answer == null || isNumberType(answer) || answer.toString().equals("void"), 2, "the answer of " + name);
        for (VariableTree parameter : method.getParameters()) {
            must(isNumberType(parameter.getType()), 2, "the parameter " + parameter + " of " + name);
        }
        method.getBody().accept(new TreeScanner<Void, Void>() {
            @Override
            public Void visitVariable(VariableTree tree, Void none) {
                must(isNumberType(tree.getType()), 2, "the variable " + tree + " of " + name);
                return super.visitVariable(tree, none);
            }

            @Override
            public Void visitClass(ClassTree tree, Void none) {
                fault(1, "a class inside " + name);
                return super.visitClass(tree, none);
            }
        }, null);
    }

    /** How many calls deep it goes from here; a call that is on its way already is a recursion. */
    private static int depth(String method, Map<String, Set<String>> calls, List<String> way) {
        if (way.contains(method)) {
            fault(8, "recursion: " + way + " and " + method + " again");
            return 0;
        }
        way.add(method);
        int deepest = 0;
        for (String called : calls.getOrDefault(method, Set.of())) {
            deepest = Math.max(deepest, depth(called, calls, way));
        }
        way.remove(way.size() - 1);
        return deepest + 1;
    }

    private static void checkCalls(Map<String, Set<String>> calls) {
        for (String method : calls.keySet()) {
            int deep = depth(method, calls, new ArrayList<>());
            must(deep <= MOST_DEEP, 10, "from " + method + " calls go " + deep + " deep");
        }
    }

    private static void checkClass(ClassTree desk, CompilationUnitTree unit, SourcePositions positions) {
        Map<String, Set<String>> calls = new HashMap<>();
        int fields = 0;
        for (Tree member : desk.getMembers()) {
            must(!(member instanceof BlockTree), 5, "an initialiser");
            must(!(member instanceof ClassTree), 1, "a nested class");
            if (member instanceof VariableTree) {
                VariableTree field = (VariableTree) member;
                checkField(field);
                fields += field.getModifiers().getFlags().contains(Modifier.STATIC) ? 0 : 1;
            } else if (member instanceof MethodTree) {
                MethodTree method = (MethodTree) member;
                checkMethod(method, linesOf(method, unit, positions));
                calls.computeIfAbsent(method.getName().toString(), name -> new TreeSet<>()).addAll(callsIn(method));
            }
        }
        must(fields <= MOST_FIELDS, 10, fields + " fields");
        checkCalls(calls);
        desk.accept(new Everywhere(calls.keySet()), null);
    }

    private static long linesOf(Tree part, CompilationUnitTree unit, SourcePositions positions) {
        long first = unit.getLineMap().getLineNumber(positions.getStartPosition(unit, part));
        long last = unit.getLineMap().getLineNumber(positions.getEndPosition(unit, part));
        return last - first + 1;
    }

    public static void main(String[] args) throws IOException {
        JavaCompiler compiler = ToolProvider.getSystemJavaCompiler();
        try (StandardJavaFileManager files = compiler.getStandardFileManager(null, null, null)) {
            Iterable<? extends JavaFileObject> sources = files.getJavaFileObjects(SOURCE);
            JavacTask task = (JavacTask) compiler.getTask(null, files, null, null, null, sources);
            CompilationUnitTree unit = task.parse().iterator().next();
            must(unit.getPackageName() == null, 1, "a package line");
            must(unit.getImports().isEmpty(), 3, "an import");
            must(unit.getTypeDecls().size() == 1, 1, "more than one class in the file");
            checkClass((ClassTree) unit.getTypeDecls().get(0), unit, Trees.instance(task).getSourcePositions());
        }
        System.out.println(wrong == 0 ? "the source keeps to the rules" : wrong + " faults against the rules");
        if (wrong != 0) {
            System.exit(1);
        }
    }
}

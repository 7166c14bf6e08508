import com.sun.source.tree.AssertTree;
import com.sun.source.tree.ClassTree;
import com.sun.source.tree.CompilationUnitTree;
import com.sun.source.tree.DoWhileLoopTree;
import com.sun.source.tree.EnhancedForLoopTree;
import com.sun.source.tree.ForLoopTree;
import com.sun.source.tree.IdentifierTree;
import com.sun.source.tree.InstanceOfTree;
import com.sun.source.tree.LambdaExpressionTree;
import com.sun.source.tree.LiteralTree;
import com.sun.source.tree.MemberReferenceTree;
import com.sun.source.tree.MemberSelectTree;
import com.sun.source.tree.MethodInvocationTree;
import com.sun.source.tree.MethodTree;
import com.sun.source.tree.NewArrayTree;
import com.sun.source.tree.NewClassTree;
import com.sun.source.tree.SynchronizedTree;
import com.sun.source.tree.ThrowTree;
import com.sun.source.tree.Tree;
import com.sun.source.tree.TryTree;
import com.sun.source.tree.VariableTree;
import com.sun.source.tree.WhileLoopTree;
import com.sun.source.util.JavacTask;
import com.sun.source.util.TreeScanner;
import java.io.File;
import java.util.HashMap;
import java.util.List;
import java.util.Map;
import java.util.Set;
import java.util.TreeSet;
import javax.lang.model.element.Modifier;
import javax.tools.JavaCompiler;
import javax.tools.StandardJavaFileManager;
import javax.tools.ToolProvider;

/** The rules of LANGUAGE.md that can be seen from the program's text. */
public final class LanguageTest {
    private static final Set<String> FACE = Set.of("token", "define", "place", "type", "make", "instances", "instance",
            "run", "steps", "value");
    private static final Set<String> CONSTANTS = Set.of("OK", "SHAPE", "UNBOUND", "TYPE", "LARGE", "LONG", "DEPTH",
            "FULL", "BAD");
    private static final Set<String> TYPES = Set.of("int", "long", "short", "byte", "char", "boolean", "int[]", "long[]",
            "short[]", "byte[]", "char[]", "boolean[]");
    private static final Map<String, Set<String>> calls = new HashMap<>();
    private static final Map<String, Integer> depths = new HashMap<>();

    public static void main(String[] args) throws Exception {
        JavaCompiler compiler = ToolProvider.getSystemJavaCompiler();
        try (StandardJavaFileManager files = compiler.getStandardFileManager(null, null, null)) {
            JavacTask task = (JavacTask) compiler.getTask(null, files, null, null, null,
                files.getJavaFileObjects(new File("src/main/java/MonoShop.java")));
            for (CompilationUnitTree unit : task.parse()) {
                lookAtUnit(unit);
            }
        }
        Check.end();
    }

    private static void lookAtUnit(CompilationUnitTree unit) {
        Check.due("rule 1, package", unit.getPackageName(), null);
        Check.due("rule 3, imports", unit.getImports().size(), 0);
        Check.due("rule 1, classes", unit.getTypeDecls().size(), 1);
        ClassTree shop = (ClassTree) unit.getTypeDecls().get(0);
        Check.due("rule 1, class", shop.getModifiers().getFlags().equals(Set.of(Modifier.PUBLIC, Modifier.FINAL)), true);
        int fields = 0;
        Set<String> methods = new TreeSet<>();
        for (Tree member : shop.getMembers()) {
            if (member instanceof VariableTree field) {
                fields += lookAtField(field);
            } else if (member instanceof MethodTree method) {
                lookAtMethod(unit, method);
                Check.due("a second method " + method.getName(), methods.add(method.getName().toString()), true);
            } else {
                Check.due("rule 1, member", member.getKind(), "a field or a method");
            }
        }
        Check.due("rule 1, the face", methods.containsAll(FACE), true);
        Check.due("rule 10, " + fields + " fields", fields <= 40, true);
        for (String method : methods) {
            Check.due("rule 10, calls below " + method + " go deep", depthOf(method, List.of()) <= 6, true);
        }
        unit.accept(new Forbidden(), null);
    }

    /** Answers 1 for a field that is no constant. */
    private static int lookAtField(VariableTree field) {
        Set<Modifier> flags = field.getModifiers().getFlags();
        String name = field.getName().toString();
        Check.due("rule 1, visible field " + name, flags.contains(Modifier.PUBLIC), CONSTANTS.contains(name));
        Check.due("rule 1, private field " + name, flags.contains(Modifier.PRIVATE), !CONSTANTS.contains(name));
        if (flags.contains(Modifier.STATIC)) {
            Check.due("rule 5, " + name, flags.contains(Modifier.FINAL)
                && Set.of("int", "long").contains(field.getType().toString()), true);
            return 0;
        }
        if (field.getType().toString().endsWith("[]")) {
            Check.due("rule 4, " + name, flags.contains(Modifier.FINAL)
                && field.getInitializer() instanceof NewArrayTree made && made.getInitializers() == null
                && (made.getDimensions().get(0) instanceof IdentifierTree
                || made.getDimensions().get(0) instanceof LiteralTree), true);
        }
        return 1;
    }

    private static void lookAtMethod(CompilationUnitTree unit, MethodTree method) {
        String name = method.getName().toString();
        boolean faced = FACE.contains(name) || name.equals("<init>");
        Check.due("rule 1, public " + name, method.getModifiers().getFlags().contains(Modifier.PUBLIC), faced);
        Check.due("rule 1, private " + name, method.getModifiers().getFlags().contains(Modifier.PRIVATE), !faced);
        Check.due("rule 10, parameters of " + name, method.getParameters().size() <= 7, true);
        Check.due("rule 10, lines of " + name, method.toString().lines().count() <= 60, true);
        if (method.getReturnType() != null) {
            String answered = method.getReturnType().toString();
            Check.due("rule 4, answer of " + name, answered.equals("void") || TYPES.contains(answered)
                && !answered.endsWith("[]"), true);
        }
        calls.put(name, new TreeSet<>());
        method.accept(new TreeScanner<Void, Void>() {
            @Override
            public Void visitMethodInvocation(MethodInvocationTree call, Void nothing) {
                calls.get(name).add(call.getMethodSelect().toString());
                for (Tree argument : call.getArguments()) {
                    Check.due("rule 10, call inside " + call, countCalls(argument), 0);
                }
                return super.visitMethodInvocation(call, nothing);
            }

            @Override
            public Void visitNewArray(NewArrayTree made, Void nothing) {
                Check.due("rule 4, array in " + name, made, "none");
                return null;
            }
        }, null);
    }

    private static int countCalls(Tree tree) {
        int[] count = {0};
        tree.accept(new TreeScanner<Void, Void>() {
            @Override
            public Void visitMethodInvocation(MethodInvocationTree call, Void nothing) {
                count[0]++;
                return null;
            }
        }, null);
        return count[0];
    }

    private static int depthOf(String method, List<String> above) {
        if (above.contains(method)) {
            Check.due("rule 8, recursion through " + method, above, "none");
            return 0;
        }
        if (!depths.containsKey(method)) {
            int below = 0;
            List<String> path = new java.util.ArrayList<>(above);
            path.add(method);
            for (String called : calls.getOrDefault(method, Set.of())) {
                below = Math.max(below, depthOf(called, path));
            }
            depths.put(method, below + 1);
        }
        return depths.get(method);
    }

    private static final class Forbidden extends TreeScanner<Void, Void> {
        private Void refuse(int rule, Tree tree) {
            Check.due("rule " + rule, tree, "none");
            return null;
        }

        @Override
        public Void visitVariable(VariableTree variable, Void nothing) {
            Check.due("rule 2, type of " + variable, TYPES.contains(variable.getType().toString()), true);
            return super.visitVariable(variable, nothing);
        }

        @Override
        public Void visitLiteral(LiteralTree literal, Void nothing) {
            Object value = literal.getValue();
            return value instanceof Integer || value instanceof Long || value instanceof Boolean ? null
                : refuse(2, literal);
        }

        @Override
        public Void visitMemberSelect(MemberSelectTree tree, Void nothing) {
            return refuse(3, tree);
        }

        @Override
        public Void visitNewClass(NewClassTree tree, Void nothing) {
            return refuse(2, tree);
        }

        @Override
        public Void visitThrow(ThrowTree tree, Void nothing) {
            return refuse(6, tree);
        }

        @Override
        public Void visitTry(TryTree tree, Void nothing) {
            return refuse(6, tree);
        }

        @Override
        public Void visitSynchronized(SynchronizedTree tree, Void nothing) {
            return refuse(6, tree);
        }

        @Override
        public Void visitAssert(AssertTree tree, Void nothing) {
            return refuse(6, tree);
        }

        @Override
        public Void visitInstanceOf(InstanceOfTree tree, Void nothing) {
            return refuse(6, tree);
        }

        @Override
        public Void visitLambdaExpression(LambdaExpressionTree tree, Void nothing) {
            return refuse(6, tree);
        }

        @Override
        public Void visitMemberReference(MemberReferenceTree tree, Void nothing) {
            return refuse(6, tree);
        }

        @Override
        public Void visitWhileLoop(WhileLoopTree tree, Void nothing) {
            return refuse(8, tree);
        }

        @Override
        public Void visitDoWhileLoop(DoWhileLoopTree tree, Void nothing) {
            return refuse(8, tree);
        }

        @Override
        public Void visitEnhancedForLoop(EnhancedForLoopTree tree, Void nothing) {
            return refuse(8, tree);
        }

        @Override
        public Void visitForLoop(ForLoopTree tree, Void nothing) {
            boolean counts = tree.getInitializer().size() == 1 && tree.getCondition() != null
                && tree.getUpdate().size() == 1;
            return counts ? super.visitForLoop(tree, nothing) : refuse(8, tree);
        }
    }
}

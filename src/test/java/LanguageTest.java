import com.sun.source.tree.*;
import com.sun.source.util.JavacTask;
import com.sun.source.util.TreeScanner;
import java.io.IOException;
import java.nio.file.Path;
import java.util.HashMap;
import java.util.HashSet;
import java.util.List;
import java.util.Map;
import java.util.Set;
import java.util.TreeSet;
import javax.lang.model.element.Modifier;
import javax.tools.JavaCompiler;
import javax.tools.StandardJavaFileManager;
import javax.tools.ToolProvider;

/**
 * The rules of LANGUAGE.md that can be read off the program's own lines, each named by its number.
 * It is a little stricter than the rules where the program needs no more: all loops are counted for loops.
 */
public final class LanguageTest {
    private static final Path PROGRAM = Path.of("src", "main", "java", "TJoins.java");
    private static final Set<String> NUMBERS = Set.of("int", "long", "short", "byte", "char", "boolean");
    private static final int MOST_LINES = 60;
    private static final int MOST_DEEP = 6;
    private static final int MOST_FIELDS = 40;
    private static final int MOST_PARAMETERS = 7;
    private static int wrong = 0;

    private static void check(boolean holds, int rule, String what) {
        if (!holds) {
            wrong++;
            System.out.println("rule " + rule + " is broken: " + what);
        }
    }

    public static void main(String[] args) throws IOException {
        JavaCompiler compiler = ToolProvider.getSystemJavaCompiler();
        StandardJavaFileManager files = compiler.getStandardFileManager(null, null, null);
        JavacTask task = (JavacTask) compiler.getTask(null, files, null, null, null, files.getJavaFileObjects(PROGRAM));
        for (CompilationUnitTree unit : task.parse()) {
            checkUnit(unit);
        }
        System.out.println(wrong == 0 ? "the language is as due" : wrong + " things are not as due");
        if (wrong != 0) {
            System.exit(1);
        }
    }

    private static void checkUnit(CompilationUnitTree unit) {
        check(unit.getPackageName() == null, 1, "a package line");
        check(unit.getImports().isEmpty(), 3, "an import");
        check(unit.getTypeDecls().size() == 1, 1, "more than one class");
        ClassTree program = (ClassTree) unit.getTypeDecls().get(0);
        Map<String, Set<String>> calls = new HashMap<>();
        int fields = 0;
        for (Tree member : program.getMembers()) {
            if (member instanceof MethodTree method) {
                checkMethod(method, calls);
            } else if (member instanceof VariableTree field) {
                fields += isStatic(field) ? 0 : 1;
                checkField(field);
            } else {
                check(false, 1, "neither a method nor a field: " + member);
            }
        }
        check(fields <= MOST_FIELDS, 10, fields + " fields");
        for (String name : calls.keySet()) {
            checkDepth(name, calls);
        }
        Body body = new Body(constantsOf(program), calls.keySet());
        body.scan(program, null);
    }

    private static boolean isStatic(VariableTree field) {
        return field.getModifiers().getFlags().contains(Modifier.STATIC);
    }

    private static Set<String> constantsOf(ClassTree program) {
        Set<String> names = new TreeSet<>();
        for (Tree member : program.getMembers()) {
            if (member instanceof VariableTree field && isStatic(field)) {
                names.add(field.getName().toString());
            }
        }
        return names;
    }

    private static void checkField(VariableTree field) {
        boolean isFinal = field.getModifiers().getFlags().contains(Modifier.FINAL);
        boolean isArray = field.getType().getKind() == Tree.Kind.ARRAY_TYPE;
        check(!isArray || isFinal, 4, "an array field that could be set again: " + field);
        check(!isArray || field.getInitializer() instanceof NewArrayTree, 4, "an array made elsewhere: " + field);
        check(!isStatic(field) || isFinal && !isArray, 5, "no constant: " + field);
        check(!isStatic(field) || isNumber(field.getInitializer()), 5, "no plain number: " + field);
    }

    private static boolean isNumber(ExpressionTree value) {
        return value instanceof LiteralTree
            || value instanceof UnaryTree unary && unary.getExpression() instanceof LiteralTree;
    }

    private static void checkMethod(MethodTree method, Map<String, Set<String>> calls) {
        String name = method.getName().toString();
        check(method.getParameters().size() <= MOST_PARAMETERS, 10, "too many parameters: " + name);
        check(method.toString().split("\n").length <= MOST_LINES, 10, "too long: " + name);
        check(!calls.containsKey(name), 1, "two methods of the same name: " + name);
        Set<String> called = new TreeSet<>();
        new TreeScanner<Void, Void>() {
            @Override
            public Void visitMethodInvocation(MethodInvocationTree call, Void none) {
                called.add(call.getMethodSelect().toString());
                return super.visitMethodInvocation(call, none);
            }
        }.scan(method.getBody(), null);
        called.remove("super");
        calls.put(name, called);
    }

    /** Goes down level by level; a method that calls itself, straight or through others, has no last level. */
    private static void checkDepth(String name, Map<String, Set<String>> calls) {
        Set<String> level = Set.of(name);
        int depth = 0;
        while (!level.isEmpty() && depth <= calls.size()) {
            Set<String> next = new HashSet<>();
            for (String caller : level) {
                next.addAll(calls.getOrDefault(caller, Set.of()));
            }
            level = next;
            depth++;
        }
        check(depth <= calls.size(), 8, "recursion from " + name);
        check(depth <= MOST_DEEP, 10, depth + " calls deep from " + name);
    }

    private static final class Body extends TreeScanner<Void, Void> {
        private final Set<String> constants;
        private final Set<String> methods;
        private boolean inMethod = false;
        private int callsAround = 0;

        Body(Set<String> constants, Set<String> methods) {
            this.constants = constants;
            this.methods = methods;
        }

        @Override
        public Void scan(Tree tree, Void none) {
            if (tree != null) {
                checkKind(tree);
            }
            return super.scan(tree, none);
        }

        private static void checkKind(Tree tree) {
            switch (tree.getKind()) {
                case THROW, TRY, CATCH, SYNCHRONIZED, ASSERT, INSTANCE_OF, LAMBDA_EXPRESSION, MEMBER_REFERENCE ->
                    check(false, 6, tree.toString());
                case WHILE_LOOP, DO_WHILE_LOOP, ENHANCED_FOR_LOOP -> check(false, 8, "not a counted loop: " + tree);
                case NULL_LITERAL -> check(false, 4, "null");
                case STRING_LITERAL, FLOAT_LITERAL, DOUBLE_LITERAL -> check(false, 2, tree.toString());
                case NEW_CLASS -> check(false, 2, tree.toString());
                default -> { }
            }
        }

        @Override
        public Void visitMethod(MethodTree method, Void none) {
            boolean answersArray = method.getReturnType() instanceof ArrayTypeTree;
            check(!answersArray, 4, "answers an array: " + method.getName());
            check(method.getThrows().isEmpty(), 6, "throws: " + method.getName());
            inMethod = true;
            super.visitMethod(method, none);
            inMethod = false;
            return null;
        }

        @Override
        public Void visitVariable(VariableTree variable, Void none) {
            String type = variable.getType() == null ? "var" : variable.getType().toString();
            String plain = type.endsWith("[]") ? type.substring(0, type.length() - 2) : type;
            check(NUMBERS.contains(plain), 2, "the type of " + variable);
            return super.visitVariable(variable, none);
        }

        @Override
        public Void visitNewArray(NewArrayTree array, Void none) {
            check(!inMethod, 4, "an array made in a method: " + array);
            check(array.getInitializers() == null && array.getDimensions().size() == 1, 4, "no plain array: " + array);
            for (ExpressionTree length : array.getDimensions()) {
                boolean fixed = length instanceof LiteralTree || constants.contains(length.toString());
                check(fixed, 4, "a length that is no constant: " + array);
            }
            return super.visitNewArray(array, none);
        }

        @Override
        public Void visitMethodInvocation(MethodInvocationTree call, Void none) {
            String name = call.getMethodSelect().toString();
            check(name.equals("super") || methods.contains(name), 3, "a call of another class: " + call);
            check(callsAround == 0, 10, "a call inside the arguments of another: " + call);
            callsAround++;
            scan(call.getArguments(), none);
            callsAround--;
            return null;
        }

        @Override
        public Void visitMemberSelect(MemberSelectTree select, Void none) {
            boolean isLength = select.getIdentifier().contentEquals("length");
            boolean isOwn = select.getExpression().toString().equals("this");
            check(isLength || isOwn, 3, "a member of another class: " + select);
            return super.visitMemberSelect(select, none);
        }

        @Override
        public Void visitForLoop(ForLoopTree loop, Void none) {
            boolean bounded = loop.getCondition() instanceof BinaryTree && !loop.getInitializer().isEmpty();
            List<? extends ExpressionStatementTree> update = loop.getUpdate();
            check(bounded && update.size() == 1, 8, "not a counted loop: " + loop);
            return super.visitForLoop(loop, none);
        }
    }
}

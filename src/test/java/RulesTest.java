import com.sun.source.tree.*;
import com.sun.source.util.JavacTask;
import com.sun.source.util.SourcePositions;
import com.sun.source.util.TreeScanner;
import com.sun.source.util.Trees;
import java.io.IOException;
import java.nio.file.Path;
import java.util.EnumSet;
import java.util.HashMap;
import java.util.HashSet;
import java.util.List;
import java.util.Map;
import java.util.Set;
import javax.lang.model.element.Modifier;
import javax.tools.JavaCompiler;
import javax.tools.StandardJavaFileManager;
import javax.tools.ToolProvider;

// Looks at the source for what the rules of LANGUAGE.md leave out, as far as a program can tell. In
// places it asks for more than the rules do, where that is easier to see: all arrays are final fields,
// and no local variable or parameter names one. What the class shows is looked at in FaceTest.
public final class RulesTest {
    private static final Path SOURCE = Path.of("src/main/java/TokenSuite.java");
    private static final int MOST_PARAMETERS = 7;
    private static final int MOST_LINES = 60;
    private static final int MOST_DEPTH = 6;
    private static final int MOST_FIELDS = 40;

    private static final Set<String> TYPES = Set.of("int", "long", "short", "byte", "char", "boolean", "int[]",
            "long[]", "short[]", "byte[]", "char[]", "boolean[]");

    private static final Set<Tree.Kind> FORBIDDEN = EnumSet.of(Tree.Kind.THROW, Tree.Kind.TRY, Tree.Kind.CATCH,
            Tree.Kind.SYNCHRONIZED, Tree.Kind.ASSERT, Tree.Kind.INSTANCE_OF, Tree.Kind.LAMBDA_EXPRESSION,
            Tree.Kind.MEMBER_REFERENCE, Tree.Kind.NULL_LITERAL, Tree.Kind.STRING_LITERAL, Tree.Kind.FLOAT_LITERAL,
            Tree.Kind.DOUBLE_LITERAL, Tree.Kind.NEW_CLASS, Tree.Kind.IMPORT, Tree.Kind.PACKAGE,
            Tree.Kind.MEMBER_SELECT, Tree.Kind.ENHANCED_FOR_LOOP, Tree.Kind.INTERFACE, Tree.Kind.ENUM,
            Tree.Kind.RECORD, Tree.Kind.ANNOTATION);

    private static int wrong = 0;

    private static void refuse(String rule, String what) {
        wrong++;
        System.out.println("rule " + rule + ": " + what);
    }

    public static void main(String[] args) throws IOException {
        JavaCompiler compiler = ToolProvider.getSystemJavaCompiler();
        try (StandardJavaFileManager files = compiler.getStandardFileManager(null, null, null)) {
            JavacTask task = (JavacTask) compiler.getTask(null, files, null, List.of("-proc:none"), null,
                    files.getJavaFileObjects(SOURCE));
            CompilationUnitTree unit = task.parse().iterator().next();
            checkUnit(unit, Trees.instance(task).getSourcePositions());
        }
        if (wrong > 0) {
            System.exit(1);
        }
        System.out.println("the source keeps to the rules");
    }

    private static void checkUnit(CompilationUnitTree unit, SourcePositions positions) {
        if (unit.getTypeDecls().size() != 1) {
            refuse("1", "there is not one class alone");
            return;
        }
        ClassTree type = (ClassTree) unit.getTypeDecls().get(0);
        if (!type.getModifiers().getFlags().equals(Set.of(Modifier.PUBLIC, Modifier.FINAL))) {
            refuse("1", "the class is not public and final");
        }
        Set<String> arrays = new HashSet<>();
        Map<String, Set<String>> calls = new HashMap<>();
        Set<String> openNames = new HashSet<>();
        Set<String> closedNames = new HashSet<>();
        int fields = 0;
        for (Tree member : type.getMembers()) {
            if (member instanceof VariableTree field) {
                fields += checkField(field, arrays);
            } else if (member instanceof MethodTree method) {
                boolean closed = checkMethod(method, calls);
                (closed ? closedNames : openNames).add(method.getName().toString());
                checkLines(method, unit, positions);
            } else {
                refuse("1", "a member that is no field and no method");
            }
        }
        closedNames.retainAll(openNames);
        if (!closedNames.isEmpty()) {
            refuse("1", "private methods with public names: " + closedNames);
        }
        if (fields > MOST_FIELDS) {
            refuse("10", fields + " fields");
        }
        for (String method : calls.keySet()) {
            checkDepth(method, calls);
        }
        new Forbidden().scan(unit, null);
        new Arrays(arrays).scan(unit, null);
    }

    /** Answers how many fields this is beside the constants. */
    private static int checkField(VariableTree field, Set<String> arrays) {
        Set<Modifier> flags = field.getModifiers().getFlags();
        String name = field.getName().toString();
        String type = field.getType().toString();
        if (type.endsWith("[]")) {
            arrays.add(name);
            if (!flags.contains(Modifier.FINAL)) {
                refuse("4", name + " is an array that may be assigned to");
            }
        }
        if (!flags.contains(Modifier.STATIC)) {
            return 1;
        }
        if (!flags.contains(Modifier.FINAL) || !type.equals("int") && !type.equals("long")) {
            refuse("5", name + " is no constant of int or long");
        }
        return 0;
    }

    /** Answers if the method is private. */
    private static boolean checkMethod(MethodTree method, Map<String, Set<String>> calls) {
        String name = method.getName().toString();
        if (method.getParameters().size() > MOST_PARAMETERS) {
            refuse("10", name + " has too many parameters");
        }
        if (method.getReturnType() != null && method.getReturnType().toString().endsWith("[]")) {
            refuse("4", name + " answers an array");
        }
        if (calls.containsKey(name)) {
            refuse("1", "two methods are called " + name);
        }
        Set<String> called = new HashSet<>();
        calls.put(name, called);
        Body body = new Body(name, called);
        body.scan(method.getParameters(), null);
        body.scan(method.getBody(), null);
        return method.getModifiers().getFlags().contains(Modifier.PRIVATE);
    }

    private static void checkLines(MethodTree method, CompilationUnitTree unit, SourcePositions positions) {
        LineMap lines = unit.getLineMap();
        long first = lines.getLineNumber(positions.getStartPosition(unit, method));
        long last = lines.getLineNumber(positions.getEndPosition(unit, method));
        if (last - first + 1 > MOST_LINES) {
            refuse("10", method.getName() + " is too long");
        }
    }

    private static void checkDepth(String method, Map<String, Set<String>> calls) {
        Set<String> level = Set.of(method);
        int depth = 0;
        // Without recursion no chain of calls is longer than the number of methods.
        while (!level.isEmpty() && depth <= calls.size()) {
            Set<String> next = new HashSet<>();
            for (String caller : level) {
                next.addAll(calls.getOrDefault(caller, Set.of()));
            }
            level = next;
            depth++;
        }
        if (depth > calls.size()) {
            refuse("8", method + " leads into recursion");
        } else if (depth > MOST_DEPTH) {
            refuse("10", method + " calls " + depth + " deep");
        }
    }

    /** What no method's body may do. */
    private static final class Body extends TreeScanner<Void, Void> {
        private final String method;
        private final Set<String> called;
        private boolean inArguments = false;

        Body(String method, Set<String> called) {
            this.method = method;
            this.called = called;
        }

        @Override
        public Void visitMethodInvocation(MethodInvocationTree call, Void nothing) {
            String name = call.getMethodSelect().toString();
            if (name.equals("super")) {
                return null;
            }
            if (inArguments) {
                refuse("10", method + " has a call inside the arguments of another call");
            }
            called.add(name);
            boolean before = inArguments;
            inArguments = true;
            scan(call.getArguments(), null);
            inArguments = before;
            return null;
        }

        @Override
        public Void visitNewArray(NewArrayTree array, Void nothing) {
            refuse("4", method + " makes an array");
            return super.visitNewArray(array, nothing);
        }

        @Override
        public Void visitVariable(VariableTree variable, Void nothing) {
            if (variable.getType().toString().endsWith("[]")) {
                refuse("4", method + " has a variable that names an array");
            }
            return super.visitVariable(variable, nothing);
        }

        @Override
        public Void visitForLoop(ForLoopTree loop, Void nothing) {
            checkCondition(loop.getCondition());
            return super.visitForLoop(loop, nothing);
        }

        @Override
        public Void visitWhileLoop(WhileLoopTree loop, Void nothing) {
            checkCondition(loop.getCondition());
            return super.visitWhileLoop(loop, nothing);
        }

        @Override
        public Void visitDoWhileLoop(DoWhileLoopTree loop, Void nothing) {
            checkCondition(loop.getCondition());
            return super.visitDoWhileLoop(loop, nothing);
        }

        private void checkCondition(ExpressionTree condition) {
            Tree bare = condition;
            while (bare instanceof ParenthesizedTree parenthesized) {
                bare = parenthesized.getExpression();
            }
            if (bare == null || bare instanceof LiteralTree) {
                refuse("8", method + " has a loop without a bound");
            }
        }
    }

    /** An array that is only ever indexed is never answered, compared or assigned to. */
    private static final class Arrays extends TreeScanner<Void, Void> {
        private final Set<String> names;

        Arrays(Set<String> names) {
            this.names = names;
        }

        @Override
        public Void visitArrayAccess(ArrayAccessTree access, Void nothing) {
            // The array's own name is left out: it may stand here and nowhere else.
            return scan(access.getIndex(), null);
        }

        @Override
        public Void visitIdentifier(IdentifierTree identifier, Void nothing) {
            if (names.contains(identifier.getName().toString())) {
                refuse("4", identifier + " is not indexed");
            }
            return super.visitIdentifier(identifier, nothing);
        }
    }

    /** What may stand nowhere in the file. */
    private static final class Forbidden extends TreeScanner<Void, Void> {
        @Override
        public Void scan(Tree tree, Void nothing) {
            if (tree != null && FORBIDDEN.contains(tree.getKind())) {
                refuse("1 to 6", tree.getKind() + ": " + tree);
            }
            return super.scan(tree, nothing);
        }

        @Override
        public Void visitVariable(VariableTree variable, Void nothing) {
            if (!TYPES.contains(variable.getType().toString())) {
                refuse("2", variable + " has another type");
            }
            return super.visitVariable(variable, nothing);
        }

        @Override
        public Void visitNewArray(NewArrayTree array, Void nothing) {
            boolean sized = array.getDimensions().size() == 1 && array.getInitializers() == null;
            boolean named = sized && (array.getDimensions().get(0) instanceof IdentifierTree
                    || array.getDimensions().get(0) instanceof LiteralTree);
            if (!named) {
                refuse("4", array + " has no literal or constant length");
            }
            return super.visitNewArray(array, nothing);
        }
    }
}

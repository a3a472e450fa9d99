import com.sun.source.tree.*;
import com.sun.source.util.JavacTask;
import com.sun.source.util.TreeScanner;
import java.io.File;
import java.lang.reflect.Constructor;
import java.lang.reflect.Field;
import java.lang.reflect.Method;
import java.lang.reflect.Modifier;
import java.util.Arrays;
import java.util.HashMap;
import java.util.HashSet;
import java.util.List;
import java.util.Map;
import java.util.Set;
import java.util.TreeSet;
import javax.tools.JavaCompiler;
import javax.tools.StandardJavaFileManager;
import javax.tools.ToolProvider;

// The public face of the class and the rules of LANGUAGE.md that its syntax tree shows.
public final class LanguageTest {
    private static final String SOURCE = "src/main/java/TaskGrid.java";
    private static final Set<Class<?>> SIMPLE =
        Set.of(int.class, long.class, short.class, byte.class, char.class, boolean.class, int[].class, long[].class,
            short[].class, byte[].class, char[].class, boolean[].class);
    private static final Set<Tree.Kind> REFUSED = Set.of(Tree.Kind.THROW, Tree.Kind.TRY, Tree.Kind.SYNCHRONIZED, Tree.Kind.ASSERT,
        Tree.Kind.INSTANCE_OF, Tree.Kind.LAMBDA_EXPRESSION, Tree.Kind.MEMBER_REFERENCE, Tree.Kind.NULL_LITERAL,
        Tree.Kind.STRING_LITERAL, Tree.Kind.FLOAT_LITERAL, Tree.Kind.DOUBLE_LITERAL, Tree.Kind.NEW_CLASS, Tree.Kind.IMPORT,
        Tree.Kind.PACKAGE, Tree.Kind.INTERFACE, Tree.Kind.ENUM, Tree.Kind.RECORD);

    private static int wrong = 0;

    private static void holds(String what, boolean is) {
        if (!is) {
            wrong++;
            System.out.println("not so: " + what);
        }
    }

    private static void face() {
        Set<String> want = new TreeSet<>(List.of("boolean code(int, long)", "int deploy(int)", "boolean join(int)", "boolean crash(int)",
            "boolean leave(int)", "int migrate()", "boolean fault(int)", "int submit(int, int, int, int)", "int retry(int)",
            "long result(int)", "boolean present(int, int)", "long value(int, int)", "int owner(int)", "int copies(int)",
            "int lost()", "int executed()"));
        Set<String> got = new TreeSet<>();
        Set<String> publicNames = new HashSet<>();
        for (Method method : TaskGrid.class.getDeclaredMethods()) {
            if (!Modifier.isPrivate(method.getModifiers())) {
                holds(method + " is public and not static", (method.getModifiers() & ~Modifier.FINAL) == Modifier.PUBLIC);
                got.add(method.getReturnType() + " " + method.getName() + "("
                    + String.join(", ", Arrays.stream(method.getParameterTypes()).map(Class::getName).toList()) + ")");
                publicNames.add(method.getName());
            }
        }
        holds("the methods are " + want + " but they are " + got, want.equals(got));
        for (Method method : TaskGrid.class.getDeclaredMethods()) {
            boolean isPrivate = Modifier.isPrivate(method.getModifiers());
            holds(method + " has a name of its own", !isPrivate || !publicNames.contains(method.getName()));
            holds(method + " answers no array", !method.getReturnType().isArray());
        }
        Constructor<?>[] constructors = TaskGrid.class.getDeclaredConstructors();
        holds("one public constructor of an int", constructors.length == 1 && Modifier.isPublic(constructors[0].getModifiers())
            && Arrays.equals(constructors[0].getParameterTypes(), new Class<?>[] {int.class}));
        holds("the class is public and final", TaskGrid.class.getModifiers() == (Modifier.PUBLIC | Modifier.FINAL));
        holds("no nested class", TaskGrid.class.getDeclaredClasses().length == 0);
        fields();
    }

    private static void fields() {
        Map<String, Integer> want = Map.of("OK", 0, "FAILED", 1, "FORCED", 2, "NO_TASK", 3, "NO_MEMBER", 4, "LOST", 5, "BAD", -1,
            "TOO_LONG", 16);
        Map<String, Integer> got = new HashMap<>();
        int own = 0;
        for (Field field : TaskGrid.class.getDeclaredFields()) {
            boolean isStatic = Modifier.isStatic(field.getModifiers());
            own += isStatic ? 0 : 1;
            holds(field + " has a type of rule 2", SIMPLE.contains(field.getType()));
            holds(field + " is a constant if it is static", !isStatic
                || Modifier.isFinal(field.getModifiers()) && (field.getType() == int.class || field.getType() == long.class));
            holds(field + " is final if it is an array", !field.getType().isArray() || Modifier.isFinal(field.getModifiers()));
            if (!Modifier.isPrivate(field.getModifiers())) {
                try {
                    got.put(field.getName(), field.getInt(null));
                } catch (ReflectiveOperationException | NullPointerException e) {
                    holds(field + " is a public constant", false);
                }
            }
        }
        holds("the constants are " + want + " but they are " + got, want.equals(got));
        holds("at most forty fields, not " + own, own <= 40);
    }

    /** Collects who calls whom, and reports what stands where it may not. */
    private static final class Rules extends TreeScanner<Void, Void> {
        final Map<String, Set<String>> calls = new HashMap<>();
        final Set<String> declared = new HashSet<>();
        String method = "";
        int arguments = 0;
        boolean inInitialiser = false;

        @Override
        public Void scan(Tree tree, Void v) {
            holds(tree + " in " + method + " is of a kind that the rules leave", tree == null || !REFUSED.contains(tree.getKind()));
            return super.scan(tree, v);
        }

        @Override
        public Void visitMethod(MethodTree tree, Void v) {
            method = named(tree.getName().toString(), tree.getParameters());
            declared.add(method);
            holds(method + " has at most seven parameters", tree.getParameters().size() <= 7);
            holds(method + " is short", tree.toString().lines().count() <= 60);
            super.visitMethod(tree, v);
            method = "";
            return null;
        }

        @Override
        public Void visitVariable(VariableTree tree, Void v) {
            inInitialiser = method.isEmpty();
            super.visitVariable(tree, v);
            inInitialiser = false;
            return null;
        }

        @Override
        public Void visitNewArray(NewArrayTree tree, Void v) {
            holds(tree + " stands in a field's initialiser or the constructor", inInitialiser || method.startsWith("<init>"));
            holds(tree + " has one length and no elements", tree.getDimensions().size() == 1 && tree.getInitializers() == null);
            return super.visitNewArray(tree, v);
        }

        @Override
        public Void visitMethodInvocation(MethodInvocationTree tree, Void v) {
            boolean isSuper = tree.toString().equals("super()");
            holds(tree + " is a call of an own method", isSuper || tree.getMethodSelect().getKind() == Tree.Kind.IDENTIFIER);
            holds(tree + " in " + method + " stands in no call's arguments", arguments == 0);
            calls.computeIfAbsent(method, name -> new TreeSet<>()).add(named(tree.getMethodSelect().toString(), tree.getArguments()));
            arguments++;
            super.visitMethodInvocation(tree, v);
            arguments--;
            return null;
        }

        @Override
        public Void visitForLoop(ForLoopTree tree, Void v) {
            holdsABound(tree.getCondition());
            return super.visitForLoop(tree, v);
        }

        @Override
        public Void visitWhileLoop(WhileLoopTree tree, Void v) {
            holdsABound(tree.getCondition());
            return super.visitWhileLoop(tree, v);
        }

        @Override
        public Void visitDoWhileLoop(DoWhileLoopTree tree, Void v) {
            holdsABound(tree.getCondition());
            return super.visitDoWhileLoop(tree, v);
        }

        void holdsABound(Tree condition) {
            holds("a loop in " + method + " ends at a bound", condition != null && condition.toString().matches("(?s).*[<>].*"));
        }

        static String named(String name, List<?> parameters) {
            return name + "/" + parameters.size();
        }

        int depth(String name, Set<String> above) {
            holds(name + " is not recursive", !above.contains(name));
            int deepest = 0;
            if (!above.contains(name)) {
                Set<String> chain = new HashSet<>(above);
                chain.add(name);
                for (String called : calls.getOrDefault(name, Set.of())) {
                    deepest = Math.max(deepest, depth(called, chain));
                }
            }
            return 1 + deepest;
        }
    }

    private static void source() throws java.io.IOException {
        JavaCompiler compiler = ToolProvider.getSystemJavaCompiler();
        try (StandardJavaFileManager files = compiler.getStandardFileManager(null, null, null)) {
            JavacTask task = (JavacTask) compiler.getTask(null, files, null, null, null, files.getJavaFileObjects(new File(SOURCE)));
            Rules rules = new Rules();
            for (CompilationUnitTree unit : task.parse()) {
                holds("one class in the file", unit.getTypeDecls().size() == 1);
                rules.scan(unit, null);
            }
            holds("the source was read", rules.declared.contains("submit/4"));
            for (String name : rules.declared) {
                int depth = rules.depth(name, Set.of());
                holds("calls go at most six deep, not " + depth + " from " + name, depth <= 6);
            }
        }
    }

    public static void main(String[] args) throws java.io.IOException {
        face();
        source();
        System.out.println(wrong == 0 ? "the class keeps to the rules" : wrong + " rules are not kept");
        if (wrong != 0) {
            System.exit(1);
        }
    }
}

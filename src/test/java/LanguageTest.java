import com.sun.source.tree.*;
import com.sun.source.util.JavacTask;
import com.sun.source.util.TreeScanner;
import java.io.File;
import java.lang.reflect.Field;
import java.lang.reflect.Member;
import java.lang.reflect.Method;
import java.lang.reflect.Modifier;
import java.util.ArrayList;
import java.util.Arrays;
import java.util.HashMap;
import java.util.HashSet;
import java.util.List;
import java.util.Map;
import java.util.Set;
import java.util.TreeSet;
import javax.tools.JavaCompiler;
import javax.tools.StandardJavaFileManager;
import javax.tools.ToolProvider;

/** The public face of the document, and those rules of LANGUAGE.md that a program can look for. */
public final class LanguageTest {
    private static final String SOURCE = "src/main/java/EffectHandlers.java";
    private static final Set<String> METHODS = Set.of("void reset()", "int token(int, int, int, int)", "int tokenCount()",
            "int tokenKind(int)", "int compile()", "int errorCode()", "int errorPos()", "int run()", "int status()",
            "int result()", "int trapCode()", "int trapPos()", "int outputCount()", "int output(int)",
            "int performCount()", "int resumeCount()");
    private static final String CONSTANTS = "NUM=1 VAR=2 ADD=3 SUB=4 MUL=5 LT=6 EQ=7 IF=8 LET=9 SEQ=10 EMIT=11 PERFORM=12 "
            + "HANDLE=13 RETURN=14 CASE=15 END=16 RESUME=17 DEEP=0 SHALLOW=1 ST_EDITING=0 ST_READY=1 ST_DONE=2 ST_TRAPPED=3 "
            + "REFUSED=-1 FULL=-2 BAD_KIND=-3 BAD_ARG=-4 E_NONE=0 E_TRAILING=1 E_UNEXPECTED=2 E_UNBOUND=3 "
            + "E_RESUME_OUTSIDE=4 E_DUP_CASE=5 E_INCOMPLETE=6 TRAP_NONE=0 TRAP_UNHANDLED=1 TRAP_RESUMED_TWICE=2 "
            + "TRAP_LIMIT=3 TRAP_OUTPUT=4 MAX_OUTPUT=16";

    public static void main(String[] args) throws Exception {
        checkFace();
        checkFields();
        checkSource();
        Due.end();
    }

    private static void checkFace() throws IllegalAccessException {
        Class<?> face = EffectHandlers.class;
        Due.same("modifiers of the class", face.getModifiers(), Modifier.PUBLIC | Modifier.FINAL);
        Due.same("nested classes", face.getDeclaredClasses().length, 0);
        Due.same("constructors", face.getDeclaredConstructors().length, 1);
        Due.holds("the constructor is public", Modifier.isPublic(face.getDeclaredConstructors()[0].getModifiers()));
        Set<String> methods = new TreeSet<>();
        Set<String> names = new HashSet<>();
        for (Method method : face.getDeclaredMethods()) {
            Due.holds(method + " has a name of its own", names.add(method.getName()));
            Due.holds(method + " takes at most seven parameters", method.getParameterCount() <= 7);
            if (shown(method)) {
                String types = Arrays.toString(method.getParameterTypes());
                methods.add(method.getReturnType() + " " + method.getName() + "(" + types.substring(1, types.length() - 1) + ")");
            }
        }
        Due.holds("the public methods are those of the document: " + methods, methods.equals(METHODS));
        Set<String> constants = new HashSet<>();
        for (Field field : face.getDeclaredFields()) {
            if (shown(field)) {
                constants.add(field.getName() + "=" + field.getInt(null));
            }
        }
        Due.holds("the public constants are those of the document: " + constants,
                constants.equals(Set.of(CONSTANTS.split(" "))));
    }

    /** Whatever is not private must be public, so it counts as part of the face. */
    private static boolean shown(Member member) {
        boolean isPublic = Modifier.isPublic(member.getModifiers());
        Due.holds(member + " is public or private", isPublic || Modifier.isPrivate(member.getModifiers()));
        return isPublic;
    }

    private static void checkFields() {
        Set<Class<?>> numbers = Set.of(int.class, long.class, short.class, byte.class, char.class, boolean.class);
        int fields = 0;
        for (Field field : EffectHandlers.class.getDeclaredFields()) {
            Class<?> type = field.getType();
            Due.holds(field + " has an allowed type", numbers.contains(type.isArray() ? type.getComponentType() : type));
            if (Modifier.isStatic(field.getModifiers())) {
                Due.holds(field + " is a constant", Modifier.isFinal(field.getModifiers()) && !type.isArray());
            } else {
                Due.holds(field + " is final if an array", !type.isArray() || Modifier.isFinal(field.getModifiers()));
                fields++;
            }
        }
        Due.holds("at most forty fields, not " + fields, fields <= 40);
    }

    private static void checkSource() throws Exception {
        JavaCompiler compiler = ToolProvider.getSystemJavaCompiler();
        try (StandardJavaFileManager files = compiler.getStandardFileManager(null, null, null)) {
            JavacTask task = (JavacTask) compiler.getTask(null, files, null, null, null,
                    files.getJavaFileObjects(new File(SOURCE)));
            for (CompilationUnitTree unit : task.parse()) {
                Rules rules = new Rules(unit);
                rules.scan(unit, null);
                rules.checkCalls();
            }
        }
    }

    /** Walks the source, names what is forbidden, and notes which method calls which. */
    private static final class Rules extends TreeScanner<Void, Void> {
        private static final Set<Tree.Kind> FORBIDDEN = Set.of(Tree.Kind.IMPORT, Tree.Kind.PACKAGE, Tree.Kind.THROW,
                Tree.Kind.TRY, Tree.Kind.CATCH, Tree.Kind.SYNCHRONIZED, Tree.Kind.ASSERT, Tree.Kind.INSTANCE_OF,
                Tree.Kind.LAMBDA_EXPRESSION, Tree.Kind.MEMBER_REFERENCE, Tree.Kind.NULL_LITERAL, Tree.Kind.STRING_LITERAL,
                Tree.Kind.DOUBLE_LITERAL, Tree.Kind.FLOAT_LITERAL, Tree.Kind.NEW_CLASS,
                Tree.Kind.INTERFACE, Tree.Kind.ENUM, Tree.Kind.RECORD, Tree.Kind.ANNOTATION);
        private static final int LONGEST = 60;
        private static final int DEEPEST = 6;

        private final CompilationUnitTree unit;
        private final Map<String, Set<String>> calls = new HashMap<>();
        private String method = "";
        private int inArguments = 0;

        Rules(CompilationUnitTree unit) {
            this.unit = unit;
        }

        @Override
        public Void scan(Tree tree, Void unused) {
            Due.holds("no " + tree, tree == null || !FORBIDDEN.contains(tree.getKind()));
            return super.scan(tree, unused);
        }

        @Override
        public Void visitMethod(MethodTree tree, Void unused) {
            method = tree.getName().toString();
            calls.put(method, new TreeSet<>());
            long lines = tree.toString().lines().count();
            Due.holds(method + " has at most " + LONGEST + " lines, not " + lines, lines <= LONGEST);
            super.visitMethod(tree, unused);
            method = "";
            return null;
        }

        @Override
        public Void visitMethodInvocation(MethodInvocationTree tree, Void unused) {
            Due.holds("no call in the arguments of a call: " + tree, inArguments == 0);
            if (tree.getMethodSelect() instanceof IdentifierTree called) {
                if (!called.getName().contentEquals("super")) {
                    calls.get(method).add(called.getName().toString());
                }
            } else {
                Due.holds("a call of the class's own methods: " + tree, false);
            }
            inArguments++;
            scan(tree.getArguments(), unused);
            inArguments--;
            return null;
        }

        @Override
        public Void visitNewArray(NewArrayTree tree, Void unused) {
            Due.holds("arrays are made in field initialisers: " + tree, method.isEmpty());
            Due.holds("one dimension with a length: " + tree, tree.getDimensions().size() == 1 && tree.getInitializers() == null);
            return super.visitNewArray(tree, unused);
        }

        @Override
        public Void visitMemberSelect(MemberSelectTree tree, Void unused) {
            Due.holds("no member of another class: " + tree, tree.getExpression().toString().equals("this"));
            return super.visitMemberSelect(tree, unused);
        }

        void checkCalls() {
            Due.same("classes in the file", unit.getTypeDecls().size(), 1);
            for (String name : calls.keySet()) {
                int depth = depth(name, List.of());
                Due.holds("calls from " + name + " go at most six deep, not " + depth, depth <= DEEPEST);
                Due.holds("calls " + name + " only to methods of the class", calls.keySet().containsAll(calls.get(name)));
            }
        }

        private int depth(String name, List<String> callers) {
            Due.holds("no recursion: " + callers + " " + name, !callers.contains(name));
            if (callers.contains(name)) {
                return 0;
            }
            List<String> path = new ArrayList<>(callers);
            path.add(name);
            int deepest = 0;
            for (String called : calls.getOrDefault(name, Set.of())) {
                deepest = Math.max(deepest, depth(called, path));
            }
            return 1 + deepest;
        }
    }
}

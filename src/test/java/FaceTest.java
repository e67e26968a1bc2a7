import com.sun.source.tree.*;
import com.sun.source.util.JavacTask;
import com.sun.source.util.TreeScanner;
import java.lang.reflect.Constructor;
import java.lang.reflect.Field;
import java.lang.reflect.Method;
import java.lang.reflect.Modifier;
import java.nio.file.Files;
import java.nio.file.Path;
import java.util.ArrayList;
import java.util.Arrays;
import java.util.HashMap;
import java.util.HashSet;
import java.util.List;
import java.util.Map;
import java.util.Set;
import java.util.TreeSet;
import java.util.stream.Collectors;
import javax.tools.JavaCompiler;
import javax.tools.ToolProvider;

/** The public face of the document, and those rules of LANGUAGE.md that the source can show. */
public final class FaceTest {
    private static final Checks CHECKS = new Checks();
    private static final Set<String> NUMBERS = Set.of("int", "long", "short", "byte", "char", "boolean");
    private static final Path SOURCE = Path.of("src/main/java/PacketDesk.java");

    public static void main(String[] args) throws Exception {
        List<String> face = Readings.face();
        constants(face);
        methods(face);
        constructor(face);
        fields();
        ClassTree tree = parse();
        rules(tree);
        lengths();
        callDepth(tree);
        CHECKS.finish();
    }

    private static void constants(List<String> face) throws Exception {
        Map<String, Integer> due = Readings.constants(face);
        CHECKS.isTrue("the document's constants " + due,
            due.equals(Map.of("BAD", -1, "FULL", -2, "SHORT", -3, "WRONG", -4)));
        for (Map.Entry<String, Integer> constant : due.entrySet()) {
            Field field = PacketDesk.class.getDeclaredField(constant.getKey());
            CHECKS.due(constant.getKey(), field.getInt(null), constant.getValue());
            CHECKS.isTrue(constant.getKey() + " is a public constant",
                field.getModifiers() == (Modifier.PUBLIC | Modifier.STATIC | Modifier.FINAL));
        }
    }

    private static void methods(List<String> face) {
        Set<String> due = new TreeSet<>(Readings.methods(face));
        Set<String> shown = new TreeSet<>();
        Set<String> hidden = new HashSet<>();
        for (Method method : PacketDesk.class.getDeclaredMethods()) {
            if (Modifier.isPrivate(method.getModifiers())) {
                hidden.add(method.getName());
            } else {
                String types = Arrays.stream(method.getParameterTypes()).map(Class::getName)
                    .collect(Collectors.joining(", "));
                shown.add(method.getReturnType() + " " + method.getName() + "(" + types + ")");
                CHECKS.isTrue(method + " is public and of the object",
                    method.getModifiers() == Modifier.PUBLIC);
            }
        }
        CHECKS.isTrue("the methods " + shown + ", due are " + due, shown.equals(due));
        for (String one : due) {
            String name = one.substring(one.indexOf(' ') + 1, one.indexOf('('));
            CHECKS.isTrue("no private method is named " + name, !hidden.contains(name));
        }
    }

    private static void constructor(List<String> face) {
        CHECKS.isTrue("the document has the class", face.contains("public final class PacketDesk {"));
        CHECKS.isTrue("the document has the constructor", face.contains("public PacketDesk();"));
        Constructor<?>[] constructors = PacketDesk.class.getDeclaredConstructors();
        CHECKS.due("constructors", constructors.length, 1);
        CHECKS.due("parameters of it", constructors[0].getParameterCount(), 0);
        CHECKS.isTrue("it is public", Modifier.isPublic(constructors[0].getModifiers()));
        CHECKS.isTrue("the class is public and final",
            PacketDesk.class.getModifiers() == (Modifier.PUBLIC | Modifier.FINAL));
        CHECKS.due("nested classes", PacketDesk.class.getDeclaredClasses().length, 0);
    }

    private static void fields() {
        Set<String> shown = new TreeSet<>();
        int own = 0;
        for (Field field : PacketDesk.class.getDeclaredFields()) {
            if (!Modifier.isPrivate(field.getModifiers())) {
                shown.add(field.getName());
            }
            if (Modifier.isStatic(field.getModifiers())) {
                boolean number = field.getType() == int.class || field.getType() == long.class;
                CHECKS.isTrue(field + " is a constant", number && Modifier.isFinal(field.getModifiers()));
            } else {
                own++;
            }
        }
        CHECKS.isTrue("the fields " + shown, shown.equals(Set.of("BAD", "FULL", "SHORT", "WRONG")));
        CHECKS.isTrue("fields of an object: " + own, own <= 40);
    }

    private static ClassTree parse() throws Exception {
        JavaCompiler compiler = ToolProvider.getSystemJavaCompiler();
        var files = compiler.getStandardFileManager(null, null, null).getJavaFileObjects(SOURCE);
        JavacTask task = (JavacTask) compiler.getTask(null, null, null, null, null, files);
        CompilationUnitTree unit = task.parse().iterator().next();
        CHECKS.due("imports", unit.getImports().size(), 0);
        CHECKS.isTrue("no package line", unit.getPackage() == null);
        CHECKS.due("classes in the file", unit.getTypeDecls().size(), 1);
        return (ClassTree) unit.getTypeDecls().get(0);
    }

    private static void rules(ClassTree tree) {
        for (Tree member : tree.getMembers()) {
            if (member instanceof MethodTree method) {
                CHECKS.isTrue(method.getName() + " has at most seven parameters",
                    method.getParameters().size() <= 7);
                String answer = String.valueOf(method.getReturnType());
                CHECKS.isTrue(method.getName() + " answers a number or nothing: " + answer,
                    NUMBERS.contains(answer) || answer.equals("void") || answer.equals("null"));
            }
            boolean inMethod = member instanceof MethodTree;
            CHECKS.isTrue("a field or a method: " + member.getKind(),
                inMethod || member instanceof VariableTree);
            new Rules(inMethod).scan(member, null);
        }
    }

    /** Whatever of the language the rules leave out is told by the kind of its tree. */
    private static final class Rules extends TreeScanner<Void, Void> {
        private static final Set<Tree.Kind> LEFT_OUT = Set.of(Tree.Kind.THROW, Tree.Kind.TRY,
            Tree.Kind.SYNCHRONIZED, Tree.Kind.ASSERT, Tree.Kind.INSTANCE_OF, Tree.Kind.LAMBDA_EXPRESSION,
            Tree.Kind.MEMBER_REFERENCE, Tree.Kind.NEW_CLASS, Tree.Kind.NULL_LITERAL, Tree.Kind.STRING_LITERAL,
            Tree.Kind.DOUBLE_LITERAL, Tree.Kind.FLOAT_LITERAL, Tree.Kind.MEMBER_SELECT,
            Tree.Kind.ENHANCED_FOR_LOOP, Tree.Kind.CLASS, Tree.Kind.PARAMETERIZED_TYPE);
        private final boolean inMethod;
        private int inArguments = 0;

        Rules(boolean inMethod) {
            this.inMethod = inMethod;
        }

        @Override
        public Void scan(Tree tree, Void unused) {
            if (tree != null && LEFT_OUT.contains(tree.getKind())) {
                CHECKS.isTrue("no " + tree.getKind() + ": " + tree, false);
            }
            return super.scan(tree, unused);
        }

        @Override
        public Void visitVariable(VariableTree tree, Void unused) {
            String type = tree.getType().toString();
            String ofOne = type.endsWith("[]") ? type.substring(0, type.length() - 2) : type;
            CHECKS.isTrue("a number or a row of numbers: " + tree, NUMBERS.contains(ofOne));
            return super.visitVariable(tree, unused);
        }

        @Override
        public Void visitTypeCast(TypeCastTree tree, Void unused) {
            CHECKS.isTrue("a cast to a number: " + tree, NUMBERS.contains(tree.getType().toString()));
            return super.visitTypeCast(tree, unused);
        }

        @Override
        public Void visitNewArray(NewArrayTree tree, Void unused) {
            CHECKS.isTrue("an array is made in a field's initialiser: " + tree, !inMethod);
            CHECKS.due("its dimensions", tree.getDimensions().size(), 1);
            return super.visitNewArray(tree, unused);
        }

        @Override
        public Void visitMethodInvocation(MethodInvocationTree tree, Void unused) {
            CHECKS.isTrue("no call inside the arguments of another: " + tree, inArguments == 0);
            CHECKS.isTrue("no call in a field's initialiser: " + tree, inMethod);
            inArguments++;
            scan(tree.getArguments(), unused);
            inArguments--;
            return null;
        }
    }

    private static void lengths() throws Exception {
        List<String> lines = Files.readAllLines(SOURCE);
        int start = -1;
        for (int i = 0; i < lines.size(); i++) {
            String line = lines.get(i);
            if (line.matches("    (public|private) .*\\{")) {
                start = i;
            } else if (line.equals("    }")) {
                CHECKS.isTrue("a method of at most sixty lines: " + lines.get(start), i - start < 60);
            }
        }
        CHECKS.isTrue("methods were found", start >= 0);
    }

    private static void callDepth(ClassTree tree) {
        Map<String, Set<String>> calls = new HashMap<>();
        for (Tree member : tree.getMembers()) {
            if (member instanceof MethodTree method) {
                Set<String> called = new TreeSet<>();
                new TreeScanner<Void, Void>() {
                    @Override
                    public Void visitMethodInvocation(MethodInvocationTree call, Void unused) {
                        called.add(call.getMethodSelect().toString());
                        return super.visitMethodInvocation(call, unused);
                    }
                }.scan(method.getBody(), null);
                calls.put(method.getName().toString(), called);
            }
        }
        for (String name : calls.keySet()) {
            int depth = depth(name, calls, new ArrayList<>());
            CHECKS.isTrue("calls from " + name + " go " + depth + " deep", depth <= 6);
        }
    }

    private static int depth(String name, Map<String, Set<String>> calls, List<String> path) {
        if (path.contains(name)) {
            return 1000;
        }
        path.add(name);
        int deepest = 0;
        CHECKS.isTrue(name + " is a method of the class", calls.containsKey(name));
        for (String called : calls.getOrDefault(name, Set.of())) {
            deepest = Math.max(deepest, depth(called, calls, path));
        }
        path.remove(name);
        return deepest + 1;
    }
}

import com.sun.source.tree.AssignmentTree;
import com.sun.source.tree.ClassTree;
import com.sun.source.tree.CompilationUnitTree;
import com.sun.source.tree.DoWhileLoopTree;
import com.sun.source.tree.ExpressionTree;
import com.sun.source.tree.ForLoopTree;
import com.sun.source.tree.IdentifierTree;
import com.sun.source.tree.LineMap;
import com.sun.source.tree.MemberSelectTree;
import com.sun.source.tree.MethodInvocationTree;
import com.sun.source.tree.MethodTree;
import com.sun.source.tree.NewArrayTree;
import com.sun.source.tree.Tree;
import com.sun.source.tree.TypeCastTree;
import com.sun.source.tree.VariableTree;
import com.sun.source.tree.WhileLoopTree;
import com.sun.source.util.JavacTask;
import com.sun.source.util.SourcePositions;
import com.sun.source.util.TreeScanner;
import com.sun.source.util.Trees;
import java.io.IOException;
import java.lang.reflect.Constructor;
import java.lang.reflect.Field;
import java.lang.reflect.Method;
import java.lang.reflect.Modifier;
import java.nio.file.Path;
import java.util.ArrayList;
import java.util.EnumSet;
import java.util.List;
import java.util.Map;
import java.util.Set;
import java.util.TreeMap;
import java.util.TreeSet;
import javax.tools.JavaCompiler;
import javax.tools.StandardJavaFileManager;
import javax.tools.ToolProvider;

/** The public face, and those rules of LANGUAGE.md that can be read off the source; it runs in the project's folder. */
public final class RangeSuiteLanguage {
    private static final Path SOURCE = Path.of("src/main/java/RangeSuite.java");
    private static final Set<String> FACE = Set.of(
            "int add(int)", "int remove(int)", "int move(int,int)", "int at(int)", "int points()",
            "int inside(int,int,int)", "int count(int,int,int)", "boolean agree(int,int,int,int)",
            "int nearest(int,int)", "int ranked(int,int)", "int square(int)", "int around(int,int)",
            "int closest()", "int staircase()", "int below(int)");
    private static final Set<Tree.Kind> FORBIDDEN = EnumSet.of(
            Tree.Kind.THROW, Tree.Kind.TRY, Tree.Kind.CATCH, Tree.Kind.SYNCHRONIZED, Tree.Kind.ASSERT,
            Tree.Kind.INSTANCE_OF, Tree.Kind.LAMBDA_EXPRESSION, Tree.Kind.MEMBER_REFERENCE, Tree.Kind.NEW_CLASS,
            Tree.Kind.NULL_LITERAL, Tree.Kind.STRING_LITERAL, Tree.Kind.FLOAT_LITERAL, Tree.Kind.DOUBLE_LITERAL,
            Tree.Kind.CLASS, Tree.Kind.INTERFACE, Tree.Kind.ENUM, Tree.Kind.RECORD, Tree.Kind.ANNOTATION, Tree.Kind.IMPORT,
            Tree.Kind.PARAMETERIZED_TYPE, Tree.Kind.ENHANCED_FOR_LOOP);

    private static final String NUMBER_TYPES = "int|long|short|byte|char|boolean";

    private static int wrong = 0;

    private static void rule(int rule, boolean kept, String what) {
        if (!kept) {
            wrong++;
            System.out.println("rule " + rule + ": " + what);
        }
    }

    private static String listOf(Class<?>[] types) {
        List<String> names = new ArrayList<>();
        for (Class<?> type : types) {
            names.add(type.getSimpleName());
        }
        return String.join(",", names);
    }

    private static void checkFace() {
        int all = RangeSuite.class.getModifiers();
        rule(1, Modifier.isPublic(all) && Modifier.isFinal(all), "the class is public and final");
        Set<String> found = new TreeSet<>();
        Set<String> publicNames = new TreeSet<>();
        Set<String> privateNames = new TreeSet<>();
        for (Method m : RangeSuite.class.getDeclaredMethods()) {
            if (Modifier.isPrivate(m.getModifiers())) {
                privateNames.add(m.getName());
            } else {
                publicNames.add(m.getName());
                rule(1, m.getModifiers() == Modifier.PUBLIC, m.getName() + " is public and nothing else");
                found.add(m.getReturnType().getSimpleName() + " " + m.getName() + "("
                        + listOf(m.getParameterTypes()) + ")");
            }
        }
        rule(1, found.equals(FACE), "the face is " + found);
        privateNames.retainAll(publicNames);
        rule(1, privateNames.isEmpty(), "private methods with a public name: " + privateNames);
        Constructor<?>[] made = RangeSuite.class.getDeclaredConstructors();
        rule(1, made.length == 1 && Modifier.isPublic(made[0].getModifiers())
                && made[0].getParameterCount() == 0, "one public constructor");
        rule(1, RangeSuite.class.getDeclaredClasses().length == 0, "no class inside");
        checkFields();
    }

    private static void checkFields() {
        Set<String> types = Set.of("int", "long", "short", "byte", "char", "boolean");
        Set<String> shown = new TreeSet<>();
        int own = 0;
        for (Field f : RangeSuite.class.getDeclaredFields()) {
            int how = f.getModifiers();
            String type = f.getType().getSimpleName();
            if (Modifier.isStatic(how)) {
                rule(5, Modifier.isFinal(how) && (type.equals("int") || type.equals("long")), "constant " + f.getName());
            } else {
                own++;
                String plain = type.endsWith("[]") ? type.substring(0, type.length() - 2) : type;
                rule(2, types.contains(plain), f.getName() + " is of type " + type);
            }
            if (!Modifier.isPrivate(how)) {
                shown.add(f.getName());
            }
        }
        rule(1, shown.equals(Set.of("BAD", "FULL")), "the fields that can be seen are " + shown);
        rule(10, own <= 40, own + " fields");
    }

    /** Walks one method and notes what it calls. */
    private static final class Body extends TreeScanner<Void, Void> {
        private final String name;
        private final Set<String> fields;
        private final Set<String> calls = new TreeSet<>();
        private int arguments = 0;

        private Body(String name, Set<String> fields) {
            this.name = name;
            this.fields = fields;
        }

        @Override
        public Void scan(Tree tree, Void nothing) {
            if (tree != null) {
                rule(6, !FORBIDDEN.contains(tree.getKind()), tree.getKind() + " in " + name);
            }
            return super.scan(tree, nothing);
        }

        @Override
        public Void visitMethodInvocation(MethodInvocationTree call, Void nothing) {
            ExpressionTree callee = call.getMethodSelect();
            // Each constructor begins with a super() that nobody wrote.
            if (callee.toString().equals("super")) {
                return null;
            }
            rule(3, callee instanceof IdentifierTree, name + " calls " + callee);
            rule(10, arguments == 0, name + " calls " + callee + " inside the arguments of a call");
            rule(10, call.getArguments().size() <= 7, name + " hands over more than seven arguments");
            calls.add(callee.toString());
            arguments++;
            scan(call.getArguments(), null);
            arguments--;
            return null;
        }

        @Override
        public Void visitMemberSelect(MemberSelectTree select, Void nothing) {
            rule(3, false, name + " names " + select);
            return super.visitMemberSelect(select, nothing);
        }

        @Override
        public Void visitNewArray(NewArrayTree made, Void nothing) {
            rule(4, false, name + " makes an array");
            return super.visitNewArray(made, nothing);
        }

        @Override
        public Void visitAssignment(AssignmentTree set, Void nothing) {
            rule(4, !fields.contains(set.getVariable().toString()), name + " assigns to an array field");
            return super.visitAssignment(set, nothing);
        }

        @Override
        public Void visitVariable(VariableTree variable, Void nothing) {
            checkVariable(name, variable);
            return super.visitVariable(variable, nothing);
        }

        @Override
        public Void visitTypeCast(TypeCastTree cast, Void nothing) {
            rule(6, cast.getType().toString().matches(NUMBER_TYPES), name + " casts to " + cast.getType());
            return super.visitTypeCast(cast, nothing);
        }

        @Override
        public Void visitForLoop(ForLoopTree loop, Void nothing) {
            rule(8, loop.getCondition() != null && !loop.getUpdate().isEmpty(), name + " has a loop without a counter");
            return super.visitForLoop(loop, nothing);
        }

        @Override
        public Void visitWhileLoop(WhileLoopTree loop, Void nothing) {
            rule(8, false, name + " has a while loop; this class counts in for loops alone");
            return super.visitWhileLoop(loop, nothing);
        }

        @Override
        public Void visitDoWhileLoop(DoWhileLoopTree loop, Void nothing) {
            rule(8, false, name + " has a do loop; this class counts in for loops alone");
            return super.visitDoWhileLoop(loop, nothing);
        }
    }

    private static void checkVariable(String method, VariableTree variable) {
        String type = String.valueOf(variable.getType());
        rule(2, type.matches("(" + NUMBER_TYPES + ")(\\[\\])?"), method + " has " + variable.getName() + " of type " + type);
    }

    private static void checkTypes(MethodTree method) {
        String name = method.getName().toString();
        // A constructor answers nothing and has no type for it.
        String answer = method.getReturnType() == null ? "void" : method.getReturnType().toString();
        rule(4, answer.matches("void|" + NUMBER_TYPES), name + " answers " + answer);
        for (VariableTree parameter : method.getParameters()) {
            checkVariable(name, parameter);
        }
    }

    private static void checkSource() throws IOException {
        JavaCompiler compiler = ToolProvider.getSystemJavaCompiler();
        StandardJavaFileManager files = compiler.getStandardFileManager(null, null, null);
        JavacTask task = (JavacTask) compiler.getTask(null, files, null, null, null, files.getJavaFileObjects(SOURCE));
        CompilationUnitTree unit = task.parse().iterator().next();
        SourcePositions positions = Trees.instance(task).getSourcePositions();
        LineMap lines = unit.getLineMap();
        rule(1, unit.getPackageName() == null && unit.getTypeDecls().size() == 1, "one class without a package");
        rule(3, unit.getImports().isEmpty(), "nothing is imported");
        ClassTree type = (ClassTree) unit.getTypeDecls().get(0);
        Set<String> arrays = checkInitialisers(type);
        Map<String, Set<String>> calls = new TreeMap<>();
        for (Tree member : type.getMembers()) {
            rule(5, member.getKind() != Tree.Kind.BLOCK, "there is an initialiser block");
            if (member instanceof MethodTree) {
                MethodTree method = (MethodTree) member;
                String name = method.getName().toString();
                long first = lines.getLineNumber(positions.getStartPosition(unit, method));
                long last = lines.getLineNumber(positions.getEndPosition(unit, method));
                rule(10, last - first < 60, name + " has " + (last - first + 1) + " lines");
                rule(10, method.getParameters().size() <= 7, name + " has more than seven parameters");
                checkTypes(method);
                Body body = new Body(name, arrays);
                body.scan(method.getBody(), null);
                rule(10, calls.put(name, body.calls) == null, name + " stands twice, so its calls can't be told apart");
            }
        }
        for (String name : calls.keySet()) {
            int deep = depth(name, calls, List.of());
            rule(10, deep <= 6, name + " calls " + deep + " deep");
        }
    }

    private static Set<String> checkInitialisers(ClassTree type) {
        Set<String> arrays = new TreeSet<>();
        for (Tree member : type.getMembers()) {
            if (member instanceof VariableTree) {
                VariableTree field = (VariableTree) member;
                if (field.getType().toString().endsWith("[]")) {
                    arrays.add(field.getName().toString());
                    NewArrayTree made = (NewArrayTree) field.getInitializer();
                    rule(4, made.getInitializers() == null && made.getDimensions().size() == 1
                            && made.getDimensions().get(0).toString().matches("[A-Z_]+|[1-9][0-9]*"),
                            field.getName() + " has a length that is a literal or a constant");
                } else {
                    // What no call had a part in and is a number is, in a constant, known at compile time.
                    Body initialiser = new Body(field.getName().toString(), Set.of());
                    initialiser.scan(field.getInitializer(), null);
                    rule(5, initialiser.calls.isEmpty(), field.getName() + " is set by a call");
                }
            }
        }
        return arrays;
    }

    private static int depth(String name, Map<String, Set<String>> calls, List<String> above) {
        if (above.contains(name)) {
            rule(8, false, name + " comes back to itself, by " + above);
            return above.size();
        }
        List<String> path = new ArrayList<>(above);
        path.add(name);
        int deepest = path.size();
        for (String callee : calls.getOrDefault(name, Set.of())) {
            deepest = Math.max(deepest, depth(callee, calls, path));
        }
        return deepest;
    }

    public static void main(String[] args) throws IOException {
        checkFace();
        checkSource();
        System.out.println(wrong == 0 ? "all rules are kept" : wrong + " breaches of the rules");
        if (wrong != 0) {
            System.exit(1);
        }
    }
}

import com.sun.source.tree.ArrayAccessTree;
import com.sun.source.tree.AssignmentTree;
import com.sun.source.tree.BlockTree;
import com.sun.source.tree.ClassTree;
import com.sun.source.tree.CompilationUnitTree;
import com.sun.source.tree.CompoundAssignmentTree;
import com.sun.source.tree.ExpressionStatementTree;
import com.sun.source.tree.ExpressionTree;
import com.sun.source.tree.ForLoopTree;
import com.sun.source.tree.IdentifierTree;
import com.sun.source.tree.LiteralTree;
import com.sun.source.tree.MemberSelectTree;
import com.sun.source.tree.MethodInvocationTree;
import com.sun.source.tree.MethodTree;
import com.sun.source.tree.NewArrayTree;
import com.sun.source.tree.Tree;
import com.sun.source.tree.Tree.Kind;
import com.sun.source.tree.TypeCastTree;
import com.sun.source.tree.UnaryTree;
import com.sun.source.tree.VariableTree;
import com.sun.source.util.JavacTask;
import com.sun.source.util.SourcePositions;
import com.sun.source.util.TreePath;
import com.sun.source.util.TreePathScanner;
import com.sun.source.util.Trees;
import java.io.IOException;
import java.lang.reflect.InvocationTargetException;
import java.lang.reflect.Method;
import java.nio.file.Path;
import java.util.ArrayList;
import java.util.Comparator;
import java.util.EnumSet;
import java.util.HashMap;
import java.util.HashSet;
import java.util.List;
import java.util.Map;
import java.util.Set;
import java.util.TreeMap;
import java.util.TreeSet;
import java.util.function.Consumer;
import javax.lang.model.element.Modifier;
import javax.tools.JavaCompiler;
import javax.tools.StandardJavaFileManager;
import javax.tools.ToolProvider;

/**
 * The rules of LANGUAGE.md, looked for in the source of the class (rules 7 and 11: in its answers). Where a rule
 * leaves more than the class needs, the test holds the class to less: all loops are for loops that count, arrays are
 * only ever read and written by an index. Rule 9 says only what is fine. The public face is in FaceTest.
 *
 * Every method with an underscore in its name is a test; none needs to be listed, so none can be forgotten.
 */
public final class LanguageTest {
    private static final String SOURCE = "src/main/java/WordLattice.java";
    private static final int MOST_METHOD_LINES = 60;
    private static final int MOST_DEPTH = 6;
    private static final int MOST_FIELDS = 40;
    private static final int MOST_PARAMETERS = 7;

    private static String test = "";
    private static int wrong = 0;

    private static CompilationUnitTree unit;
    private static SourcePositions positions;
    private static ClassTree program;

    public static void main(String[] args) throws IOException, IllegalAccessException {
        parse();
        List<Method> tests = new ArrayList<>();
        for (Method m : LanguageTest.class.getDeclaredMethods()) {
            if (m.getName().contains("_") && !m.isSynthetic()) {
                tests.add(m);
            }
        }
        tests.sort(Comparator.comparing(Method::getName));
        for (Method m : tests) {
            run(m);
        }
        System.out.println(tests.size() + " tests, " + (wrong == 0 ? "all rules are kept" : wrong + " breaches"));
        if (wrong != 0 || tests.isEmpty()) {
            System.exit(1);
        }
    }

    private static void parse() throws IOException {
        JavaCompiler compiler = ToolProvider.getSystemJavaCompiler();
        StandardJavaFileManager files = compiler.getStandardFileManager(null, null, null);
        JavacTask task = (JavacTask) compiler.getTask(null, files, null, null, null, files.getJavaFileObjects(Path.of(SOURCE)));
        unit = task.parse().iterator().next();
        positions = Trees.instance(task).getSourcePositions();
        program = (ClassTree) unit.getTypeDecls().get(0);
    }

    private static void run(Method m) throws IllegalAccessException {
        test = m.getName();
        try {
            m.invoke(null);
        } catch (InvocationTargetException e) {
            wrong++;
            System.out.println(test + ": ended with " + e.getCause());
        }
    }

    private static void check(boolean holds, String what) {
        if (!holds) {
            wrong++;
            System.out.println(test + ": does not hold: " + what);
        }
    }

    private static void breach(Tree tree) {
        check(false, "no '" + tree + "' in line " + line(positions.getStartPosition(unit, tree)));
    }

    private static long line(long position) {
        return unit.getLineMap().getLineNumber(position);
    }

    // Ways through the source

    private static void eachPath(Tree root, Consumer<TreePath> visit) {
        TreePath start = TreePath.getPath(unit, root);
        visit.accept(start);
        new TreePathScanner<Void, Void>() {
            @Override
            public Void scan(Tree tree, Void nothing) {
                if (tree != null) {
                    visit.accept(new TreePath(getCurrentPath(), tree));
                }
                return super.scan(tree, nothing);
            }
        }.scan(start, null);
    }

    private static <T extends Tree> List<T> all(Tree root, Class<T> type) {
        List<T> found = new ArrayList<>();
        eachPath(root, path -> {
            if (type.isInstance(path.getLeaf())) {
                found.add(type.cast(path.getLeaf()));
            }
        });
        return found;
    }

    private static void none(Set<Kind> kinds) {
        eachPath(unit, path -> {
            if (kinds.contains(path.getLeaf().getKind())) {
                breach(path.getLeaf());
            }
        });
    }

    private static List<VariableTree> fields() {
        List<VariableTree> fields = new ArrayList<>();
        for (Tree member : program.getMembers()) {
            if (member instanceof VariableTree field) {
                fields.add(field);
            }
        }
        return fields;
    }

    private static boolean isConstant(VariableTree field) {
        return field.getModifiers().getFlags().containsAll(EnumSet.of(Modifier.STATIC, Modifier.FINAL));
    }

    private static Set<String> constants() {
        Set<String> names = new HashSet<>();
        for (VariableTree field : fields()) {
            if (isConstant(field)) {
                names.add(field.getName().toString());
            }
        }
        return names;
    }

    private static Set<String> arrays() {
        Set<String> names = new HashSet<>();
        for (VariableTree variable : all(unit, VariableTree.class)) {
            if (variable.getType() != null && variable.getType().getKind() == Kind.ARRAY_TYPE) {
                names.add(variable.getName().toString());
            }
        }
        return names;
    }

    private static Map<String, MethodTree> methods() {
        Map<String, MethodTree> methods = new TreeMap<>();
        for (MethodTree method : all(unit, MethodTree.class)) {
            check(methods.put(method.getName().toString(), method) == null, "one method alone is called " + method.getName());
        }
        return methods;
    }

    private static Map<String, Set<String>> calls() {
        Map<String, Set<String>> calls = new TreeMap<>();
        for (MethodTree method : methods().values()) {
            Set<String> called = new TreeSet<>();
            for (MethodInvocationTree call : all(method, MethodInvocationTree.class)) {
                called.add(call.getMethodSelect().toString().replace("this.", ""));
            }
            calls.put(method.getName().toString(), called);
        }
        return calls;
    }

    // Rule 1

    private static void rule1_oneClassPublicAndFinal() {
        check(unit.getPackageName() == null, "no package line");
        check(unit.getTypeDecls().size() == 1, "one class in the file");
        check(program.getKind() == Kind.CLASS && program.getSimpleName().contentEquals("WordLattice"), "the class is WordLattice");
        check(program.getModifiers().getFlags().equals(EnumSet.of(Modifier.PUBLIC, Modifier.FINAL)), "public and final");
        check(program.getExtendsClause() == null && program.getImplementsClause().isEmpty(), "nothing extended");
    }

    private static void rule1_noNestedClass() {
        check(all(unit, ClassTree.class).size() == 1, "no class inside the class");
        none(EnumSet.of(Kind.INTERFACE, Kind.ENUM, Kind.RECORD, Kind.ANNOTATION_TYPE, Kind.NEW_CLASS, Kind.ANNOTATION));
    }

    private static void rule1_fieldsArePrivate() {
        for (VariableTree field : fields()) {
            check(field.getModifiers().getFlags().contains(Modifier.PRIVATE), field.getName() + " is private");
        }
    }

    private static void rule1_noTwoMethodsOfOneName() {
        methods();
    }

    // Rule 2

    private static final Set<String> NUMBERS = Set.of("int", "long", "short", "byte", "char", "boolean");

    private static boolean isNumbers(Tree type) {
        String name = String.valueOf(type);
        return NUMBERS.contains(name) || name.endsWith("[]") && NUMBERS.contains(name.substring(0, name.length() - 2));
    }

    private static void rule2_typesOfVariables() {
        for (VariableTree variable : all(unit, VariableTree.class)) {
            check(isNumbers(variable.getType()), variable.getName() + " is a number or a row of numbers");
        }
    }

    private static void rule2_typesOfAnswers() {
        for (MethodTree method : methods().values()) {
            boolean isConstructor = method.getReturnType() == null;
            String type = String.valueOf(method.getReturnType());
            check(isConstructor || type.equals("void") || NUMBERS.contains(type), method.getName() + " answers a number");
        }
    }

    private static void rule2_literals() {
        none(EnumSet.of(Kind.STRING_LITERAL, Kind.FLOAT_LITERAL, Kind.DOUBLE_LITERAL));
    }

    // Rule 3

    private static void rule3_nothingImported() {
        check(unit.getImports().isEmpty(), "no import");
    }

    private static void rule3_onlyOwnMethodsAreCalled() {
        Set<String> own = methods().keySet();
        for (MethodInvocationTree call : all(program, MethodInvocationTree.class)) {
            // A constructor without a call of its own has one that the compiler adds.
            boolean isAdded = call.getMethodSelect().toString().equals("super");
            check(isAdded || own.contains(call.getMethodSelect().toString()), "no call of " + call.getMethodSelect());
        }
    }

    private static void rule3_membersOfThisAndLengthsOnly() {
        for (MemberSelectTree select : all(program, MemberSelectTree.class)) {
            boolean isOwn = select.getExpression().toString().equals("this");
            boolean isLength = select.getIdentifier().contentEquals("length") && arrays().contains(select.getExpression().toString());
            if (!isOwn && !isLength) {
                breach(select);
            }
        }
    }

    private static void rule3_onlyOwnNames() {
        Set<String> own = new HashSet<>(methods().keySet());
        own.addAll(Set.of("this", "super"));
        for (VariableTree variable : all(program, VariableTree.class)) {
            own.add(variable.getName().toString());
        }
        for (IdentifierTree name : all(program, IdentifierTree.class)) {
            check(own.contains(name.getName().toString()), "no " + name.getName() + " from elsewhere");
        }
    }

    // Rule 4

    private static void rule4_arraysAreMadeInFieldInitialisers() {
        Set<Tree> inFields = new HashSet<>();
        for (VariableTree field : fields()) {
            if (field.getInitializer() instanceof NewArrayTree) {
                inFields.add(field.getInitializer());
            }
        }
        for (NewArrayTree made : all(program, NewArrayTree.class)) {
            check(inFields.contains(made), made + " is made in a field's initialiser");
        }
    }

    private static void rule4_lengthsAreConstantsOf1OrMore() {
        Map<String, Integer> values = new HashMap<>();
        for (VariableTree field : fields()) {
            if (isConstant(field) && field.getInitializer() instanceof LiteralTree literal && literal.getValue() instanceof Integer value) {
                values.put(field.getName().toString(), value);
            }
        }
        for (NewArrayTree made : all(program, NewArrayTree.class)) {
            check(made.getDimensions().size() == 1 && made.getInitializers() == null, made + " has one length");
            ExpressionTree length = made.getDimensions().get(0);
            boolean isLiteral = length instanceof LiteralTree literal && literal.getValue() instanceof Integer value && value >= 1;
            check(isLiteral || values.getOrDefault(length.toString(), 0) >= 1, length + " is 1 or more");
        }
    }

    private static void rule4_noNull() {
        none(EnumSet.of(Kind.NULL_LITERAL));
    }

    private static void rule4_arraysAreUsedByIndexOnly() {
        Set<String> arrays = arrays();
        eachPath(program, path -> {
            if (path.getLeaf() instanceof IdentifierTree name && arrays.contains(name.getName().toString())) {
                Tree parent = path.getParentPath().getLeaf();
                boolean isRow = parent instanceof ArrayAccessTree access && access.getExpression() == name;
                boolean isLength = parent instanceof MemberSelectTree;
                check(isRow || isLength, name + " is used by an index in " + parent);
            }
        });
    }

    private static void rule4_arrayFieldsAreFinal() {
        for (VariableTree field : fields()) {
            if (field.getType().getKind() == Kind.ARRAY_TYPE) {
                check(field.getModifiers().getFlags().contains(Modifier.FINAL), field.getName() + " is never another array");
            }
        }
    }

    // Rule 5

    private static void rule5_staticFieldsAreConstants() {
        for (VariableTree field : fields()) {
            boolean isStatic = field.getModifiers().getFlags().contains(Modifier.STATIC);
            boolean isNumber = Set.of("int", "long").contains(field.getType().toString());
            check(!isStatic || isConstant(field) && isNumber && field.getInitializer() instanceof LiteralTree,
                field.getName() + " is a constant");
        }
    }

    private static void rule5_noInitialiserBlock() {
        for (Tree member : program.getMembers()) {
            check(!(member instanceof BlockTree), "no initialiser block");
        }
    }

    // Rule 6

    private static void rule6_forbiddenForms() {
        none(EnumSet.of(Kind.THROW, Kind.TRY, Kind.CATCH, Kind.SYNCHRONIZED, Kind.ASSERT, Kind.INSTANCE_OF, Kind.LAMBDA_EXPRESSION,
            Kind.MEMBER_REFERENCE));
        for (MethodTree method : methods().values()) {
            check(!method.getModifiers().getFlags().contains(Modifier.SYNCHRONIZED), method.getName() + " is not synchronized");
            check(method.getThrows().isEmpty(), method.getName() + " throws nothing");
        }
    }

    private static void rule6_castsBetweenNumbersOnly() {
        for (TypeCastTree cast : all(program, TypeCastTree.class)) {
            check(NUMBERS.contains(cast.getType().toString()), cast + " is a cast between numbers");
        }
    }

    // Rule 7: a call that throws ends the test

    private static final int[] ARGUMENTS = {Integer.MIN_VALUE, Integer.MIN_VALUE + 1, -65, -13, -6, -2, -1, 0, 1, 2, 3, 4, 5, 6, 11,
        12, 13, 16, 17, 20, 64, 65, 98, 99, 100, Integer.MAX_VALUE - 1, Integer.MAX_VALUE};

    /** Empty, half full and full, in spelling, dictionary and text. */
    private static WordLattice filled(int penalty, int words, int spelled, int typed) {
        WordLattice x = new WordLattice(penalty);
        for (int i = 0; i < words; i++) {
            x.spell(i);
            x.spell(i >> 2);
            x.learn(i, i % 3);
        }
        for (int i = 0; i < spelled; i++) {
            x.spell(i);
        }
        for (int i = 0; i < typed; i++) {
            x.type(i);
        }
        return x;
    }

    private static void callAll(WordLattice x, int a, int b, int c) {
        x.start(a);
        x.link(a, b, c);
        x.learn(a, b);
        x.spell(a);
        x.type(a);
        x.cost();
        x.ways();
        x.start(b);
        x.lookUp();
        x.beginning();
        x.forget();
    }

    private static void rule7_noCallThrowsInAnyState() {
        int[] words = {0, 1, 15, 16};
        int[] spelled = {0, 1, 5};
        int[] typed = {0, 1, 11, 12};
        for (int w : words) {
            for (int s : spelled) {
                for (int t : typed) {
                    for (int a : ARGUMENTS) {
                        for (int b : ARGUMENTS) {
                            callAll(filled(a, w, s, t), a, b, 7);
                        }
                    }
                }
            }
        }
    }

    private static void rule7_noLinkThrows() {
        WordLattice x = filled(9, 16, 5, 12);
        for (int a : ARGUMENTS) {
            for (int b : ARGUMENTS) {
                for (int c : ARGUMENTS) {
                    x.link(a, b, c);
                }
                x.cost();
            }
        }
    }

    private static void rule7_noDivisionThatCouldFail() {
        none(EnumSet.of(Kind.DIVIDE, Kind.REMAINDER, Kind.DIVIDE_ASSIGNMENT, Kind.REMAINDER_ASSIGNMENT));
    }

    // Rule 8

    private static void rule8_noRecursion() {
        depth(calls());
    }

    /** How many calls stand in one another at most; the paths get longer than the class has methods if one is a ring. */
    private static int depth(Map<String, Set<String>> calls) {
        Set<String> now = new TreeSet<>(calls.keySet());
        int depth = 0;
        while (!now.isEmpty() && depth <= calls.size()) {
            Set<String> next = new TreeSet<>();
            for (String method : now) {
                next.addAll(calls.getOrDefault(method, Set.of()));
            }
            now = next;
            depth++;
        }
        check(depth <= calls.size(), "no recursion");
        return depth;
    }

    private static void rule8_loopsCountUpOrDownToABound() {
        none(EnumSet.of(Kind.WHILE_LOOP, Kind.DO_WHILE_LOOP, Kind.ENHANCED_FOR_LOOP));
        for (ForLoopTree loop : all(program, ForLoopTree.class)) {
            boolean hasParts = loop.getInitializer().size() == 1 && loop.getCondition() != null && loop.getUpdate().size() == 1;
            check(hasParts, "one counter, a bound and one step in " + loop);
            if (hasParts && loop.getInitializer().get(0) instanceof VariableTree counter) {
                checkCounter(loop, counter.getName().toString());
            } else {
                breach(loop);
            }
        }
    }

    private static void checkCounter(ForLoopTree loop, String counter) {
        ExpressionStatementTree step = loop.getUpdate().get(0);
        String condition = loop.getCondition().toString();
        boolean goesUp = step.toString().startsWith(counter + "++") && condition.startsWith(counter + " <");
        boolean goesDown = step.toString().startsWith(counter + "--") && condition.startsWith(counter + " >");
        check(goesUp || goesDown, counter + " counts to its bound: " + condition + "; " + step);
        check(!condition.contains("||"), "the bound ends the loop by itself: " + condition);
        Set<String> set = new TreeSet<>();
        for (AssignmentTree change : all(loop.getStatement(), AssignmentTree.class)) {
            set.add(change.getVariable().toString());
        }
        for (CompoundAssignmentTree change : all(loop.getStatement(), CompoundAssignmentTree.class)) {
            set.add(change.getVariable().toString());
        }
        for (UnaryTree change : all(loop.getStatement(), UnaryTree.class)) {
            set.add(change.getExpression().toString());
        }
        for (IdentifierTree name : all(loop.getCondition(), IdentifierTree.class)) {
            check(!set.contains(name.toString()), name + " is not set inside the loop it ends");
        }
    }

    // Rule 10

    private static void rule10_atMostSevenParameters() {
        for (MethodTree method : methods().values()) {
            check(method.getParameters().size() <= MOST_PARAMETERS, "at most seven parameters in " + method.getName());
        }
    }

    private static void rule10_noCallInsideTheArgumentsOfACall() {
        for (MethodInvocationTree call : all(program, MethodInvocationTree.class)) {
            for (ExpressionTree argument : call.getArguments()) {
                check(all(argument, MethodInvocationTree.class).isEmpty(), "no call inside " + call);
            }
        }
    }

    private static void rule10_methodsAreShort() {
        for (MethodTree method : methods().values()) {
            long first = line(positions.getStartPosition(unit, method));
            long last = line(positions.getEndPosition(unit, method));
            check(last - first < MOST_METHOD_LINES, method.getName() + " is short");
        }
    }

    private static void rule10_callsGoAtMostSixDeep() {
        check(depth(calls()) <= MOST_DEPTH, "calls go at most six deep");
    }

    private static void rule10_atMostFortyFields() {
        check(fields().size() - constants().size() <= MOST_FIELDS, "at most forty fields");
    }

    // Rule 11: that nothing of the library is used is rule 3

    private static void rule11_theSameCallsGiveTheSameAnswers() {
        List<Integer> first = answers();
        // Objects made and used in between must not show.
        filled(3, 16, 5, 12).cost();
        check(first.equals(answers()), "the same calls give the same answers");
    }

    private static List<Integer> answers() {
        List<Integer> answers = new ArrayList<>();
        WordLattice x = filled(4, 16, 2, 12);
        for (int i = 0; i < 30; i++) {
            answers.add(x.link(i % 4, i % 3, 3 * i));
            answers.add(x.spell(i));
            answers.add(x.lookUp());
            answers.add(x.beginning());
            answers.add(x.learn(i, i % 3));
            answers.add(x.cost());
            answers.add(x.ways());
            answers.add(x.start(i % 13));
        }
        return answers;
    }
}

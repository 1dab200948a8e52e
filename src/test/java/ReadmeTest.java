import java.io.IOException;
import java.lang.reflect.Method;
import java.nio.file.Files;
import java.nio.file.Path;
import java.util.ArrayList;
import java.util.Arrays;
import java.util.List;
import java.util.Set;
import java.util.TreeSet;
import java.util.regex.Matcher;
import java.util.regex.Pattern;

/**
 * Reads README.md itself, so that its example and this test can't come apart: the calls of the example give the
 * answers that it names, and the example and the table leave no call of the class out.
 *
 * A line of the example is "call; call; // answer, answer: remark", with "nothing" as the answer of a void call. A
 * line in another form is a fault, since an example that is passed over would seem to be tested.
 */
public final class ReadmeTest {
    private static final Path README = Path.of("README.md");
    private static final Pattern MAKING = Pattern.compile("WordLattice x = new WordLattice\\((-?\\d+)\\);\\s*(//.*)?");
    private static final Pattern CALLING = Pattern.compile("((?:x\\.\\w+\\([^()]*\\);\\s*)+)//\\s*([^:]*)(?::.*)?");
    private static final Pattern CALL = Pattern.compile("x\\.((\\w+)\\(([^()]*)\\))");
    private static final Pattern TABLE_ROW = Pattern.compile("\\| `(\\w+\\([^()]*\\))` \\|.*");

    private static int wrong = 0;
    private static WordLattice x = null;
    private static final Set<String> called = new TreeSet<>();

    public static void main(String[] args) throws IOException {
        List<String> lines = Files.readAllLines(README);
        List<String> example = exampleOf(lines);
        for (String line : example) {
            if (!line.isBlank()) {
                runLine(line);
            }
        }
        check(called.equals(namesOfMethods()), "the example has every call of the class, but it has " + called);
        check(tableOf(lines).equals(face()), "the table has every call of the class once, but it has " + tableOf(lines));
        System.out.println(wrong == 0 ? "README.md is as due" : wrong + " faults in README.md");
        if (wrong != 0) {
            System.exit(1);
        }
    }

    private static void check(boolean holds, String what) {
        if (!holds) {
            wrong++;
            System.out.println("does not hold: " + what);
        }
    }

    private static List<String> exampleOf(List<String> lines) {
        int from = lines.indexOf("```java");
        check(from >= 0 && from == lines.lastIndexOf("```java"), "README.md has one Java example");
        List<String> behind = lines.subList(from + 1, lines.size());
        int length = behind.indexOf("```");
        check(length >= 0, "the example has an end");
        return behind.subList(0, Math.max(length, 0));
    }

    private static void runLine(String line) {
        Matcher making = MAKING.matcher(line);
        Matcher calling = CALLING.matcher(line);
        if (making.matches()) {
            check(x == null, "one object is made in the example");
            x = new WordLattice(Integer.parseInt(making.group(1)));
        } else if (x != null && calling.matches()) {
            runCalls(line, calling.group(1), calling.group(2));
        } else {
            check(false, "a call on the object x with its answer: " + line);
        }
    }

    private static void runCalls(String line, String calls, String answers) {
        List<String> got = new ArrayList<>();
        Matcher call = CALL.matcher(calls);
        while (call.find()) {
            got.add(answerOf(call.group(2), call.group(3)));
        }
        List<String> named = List.of(answers.strip().split(", "));
        check(got.equals(named), "the class answers " + got + " as README.md has it: " + line);
    }

    private static String answerOf(String name, String arguments) {
        Object[] values = arguments.isEmpty()
            ? new Object[0]
            : Pattern.compile(", ").splitAsStream(arguments).map(Integer::valueOf).toArray();
        Class<?>[] types = new Class<?>[values.length];
        Arrays.fill(types, int.class);
        try {
            Method method = WordLattice.class.getDeclaredMethod(name, types);
            called.add(name);
            Object answer = method.invoke(x, values);
            return method.getReturnType() == void.class ? "nothing" : String.valueOf(answer);
        } catch (ReflectiveOperationException e) {
            return "not at all (" + e + ")";
        }
    }

    private static Set<String> namesOfMethods() {
        Set<String> names = new TreeSet<>();
        for (Method method : WordLattice.class.getMethods()) {
            if (method.getDeclaringClass() == WordLattice.class) {
                names.add(method.getName());
            }
        }
        return names;
    }

    /** Every call as "name/number of parameters", for the names of parameters are not in the class file. */
    private static List<String> face() {
        List<String> face = new ArrayList<>();
        face.add("WordLattice/" + WordLattice.class.getConstructors()[0].getParameterCount());
        for (Method method : WordLattice.class.getMethods()) {
            if (method.getDeclaringClass() == WordLattice.class) {
                face.add(method.getName() + "/" + method.getParameterCount());
            }
        }
        face.sort(null);
        return face;
    }

    private static List<String> tableOf(List<String> lines) {
        List<String> table = new ArrayList<>();
        for (String line : lines) {
            Matcher row = TABLE_ROW.matcher(line);
            if (row.matches()) {
                String signature = row.group(1);
                int open = signature.indexOf('(');
                String parameters = signature.substring(open + 1, signature.length() - 1);
                int count = parameters.isEmpty() ? 0 : parameters.split(", ").length;
                table.add(signature.substring(0, open) + "/" + count);
            }
        }
        table.sort(null);
        return table;
    }
}

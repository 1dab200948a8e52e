import java.lang.reflect.Constructor;
import java.lang.reflect.Field;
import java.lang.reflect.Member;
import java.lang.reflect.Method;
import java.lang.reflect.Modifier;
import java.util.Set;
import java.util.TreeSet;

/** The class has the public face of the document and shows nothing else; its static fields are constants. */
public final class FaceTest {
    private static final Set<String> FACE = Set.of(
        "public WordLattice(int)",
        "public int WordLattice.spell(int)",
        "public int WordLattice.learn(int,int)",
        "public int WordLattice.forget()",
        "public int WordLattice.lookUp()",
        "public void WordLattice.clearSpelling()",
        "public int WordLattice.link(int,int,int)",
        "public int WordLattice.type(int)",
        "public void WordLattice.clearText()",
        "public int WordLattice.cost()",
        "public int WordLattice.ways()",
        "public int WordLattice.start(int)",
        "public int WordLattice.beginning()");

    private static int wrong = 0;

    public static void main(String[] args) {
        Class<?> c = WordLattice.class;
        check(Modifier.isPublic(c.getModifiers()) && Modifier.isFinal(c.getModifiers()), "the class is public and final");
        check(c.getSuperclass() == Object.class && c.getInterfaces().length == 0, "the class extends nothing");
        check(c.getDeclaredClasses().length == 0, "the class has no nested class");
        checkMembers(c);
        checkFields(c);
        System.out.println(wrong == 0 ? "the face is as due" : wrong + " faults in the face");
        if (wrong != 0) {
            System.exit(1);
        }
    }

    private static void check(boolean holds, String what) {
        if (!holds) {
            wrong++;
            System.out.println("does not hold: " + what);
        }
    }

    private static boolean isPrivate(Member m) {
        return Modifier.isPrivate(m.getModifiers());
    }

    private static void checkMembers(Class<?> c) {
        Set<String> shown = new TreeSet<>();
        Set<String> publicNames = new TreeSet<>();
        for (Constructor<?> k : c.getDeclaredConstructors()) {
            if (!isPrivate(k)) {
                shown.add(k.toString());
            }
        }
        for (Method m : c.getDeclaredMethods()) {
            if (!isPrivate(m)) {
                shown.add(m.toString());
                publicNames.add(m.getName());
            }
        }
        check(shown.equals(FACE), "the members shown are those of the document, but they are " + shown);
        for (Method m : c.getDeclaredMethods()) {
            check(!isPrivate(m) || !publicNames.contains(m.getName()), "no private method is called " + m.getName());
            check(m.getParameterCount() <= 7, "at most seven parameters in " + m.getName());
        }
    }

    private static void checkFields(Class<?> c) {
        for (Field f : c.getDeclaredFields()) {
            check(isPrivate(f), f.getName() + " is private");
            boolean isStatic = Modifier.isStatic(f.getModifiers());
            boolean isConstant = Modifier.isFinal(f.getModifiers()) && (f.getType() == int.class || f.getType() == long.class);
            check(!isStatic || isConstant, f.getName() + " is a constant");
            boolean isArray = f.getType().isArray();
            check(f.getType().isPrimitive() || isArray && f.getType().getComponentType().isPrimitive(),
                f.getName() + " is a number or a row of numbers");
            check(!isArray || Modifier.isFinal(f.getModifiers()), f.getName() + " is never another array");
        }
    }
}

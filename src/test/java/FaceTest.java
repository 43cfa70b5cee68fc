import java.lang.reflect.Constructor;
import java.lang.reflect.Field;
import java.lang.reflect.Method;
import java.lang.reflect.Modifier;
import java.util.Arrays;
import java.util.Set;
import java.util.TreeSet;

/** The public face: the constants, the constructor and the methods of the document, no more and no fewer. */
public final class FaceTest {
    private static final String[] METHODS = {
        "int allocate(int, int, int) throws IllegalArgumentException, UnsupportedOperationException",
        "void drop(int) throws IllegalArgumentException",
        "void copy(int, int) throws IllegalArgumentException",
        "int load(int, int, int) throws IllegalArgumentException, IllegalStateException, IndexOutOfBoundsException",
        "void store(int, int, int) throws IllegalArgumentException, IllegalStateException, IndexOutOfBoundsException",
        "int drain(int) throws IllegalArgumentException",
        "int trace(int) throws IllegalArgumentException, IllegalStateException",
        "int pause(boolean)",
        "int root(int) throws IllegalArgumentException",
        "int field(int, int) throws NoSuchElementException, IndexOutOfBoundsException",
        "int object(int, int) throws IllegalArgumentException, NoSuchElementException",
        "int line(int) throws IndexOutOfBoundsException",
        "int figure(int) throws IllegalArgumentException",
    };

    public static void main(String[] args) {
        Check check = new Check();
        Class<?> face = LineCollector.class;
        check.due("public and final", face.getModifiers(), Modifier.PUBLIC | Modifier.FINAL);
        check.due("no parent", face.getSuperclass(), Object.class);
        methods(check, face);
        constants(check, face);
        Constructor<?>[] constructors = face.getDeclaredConstructors();
        check.due("constructors", constructors.length, 1);
        check.due("constructor", constructors[0].toString(), "public LineCollector()");
        for (Class<?> inside : face.getDeclaredClasses()) {
            check.due(inside.getName() + " is static", Modifier.isStatic(inside.getModifiers()), true);
            check.due(inside.getName() + " is not public", Modifier.isPublic(inside.getModifiers()), false);
        }
        check.end();
    }

    private static void methods(Check check, Class<?> face) {
        Set<String> got = new TreeSet<>();
        Set<String> names = new TreeSet<>();
        for (Method m : face.getDeclaredMethods()) {
            if (!Modifier.isPrivate(m.getModifiers()) && !m.isSynthetic()) {
                got.add(told(m));
                names.add(m.getName());
                check.due(m.getName() + " is public, nothing else", m.getModifiers(), Modifier.PUBLIC);
            }
        }
        check.due("methods", got, new TreeSet<>(Arrays.asList(METHODS)));
        for (Method m : face.getDeclaredMethods()) {
            boolean shares = Modifier.isPrivate(m.getModifiers()) && names.contains(m.getName());
            check.due("the name of " + m + " is its own", shares, false);
        }
    }

    private static String told(Method m) {
        String parameters = String.join(", ",
            Arrays.stream(m.getParameterTypes()).map(Class::getSimpleName).toList());
        String thrown = String.join(", ",
            Arrays.stream(m.getExceptionTypes()).map(Class::getSimpleName).toList());
        return m.getReturnType().getSimpleName() + " " + m.getName() + "(" + parameters + ")"
            + (thrown.isEmpty() ? "" : " throws " + thrown);
    }

    private static void constants(Check check, Class<?> face) {
        int seen = 0;
        for (Field f : face.getDeclaredFields()) {
            if (Modifier.isStatic(f.getModifiers())) {
                check.due(f.getName() + " is final", Modifier.isFinal(f.getModifiers()), true);
            }
            if (!Modifier.isPrivate(f.getModifiers())) {
                seen++;
                check.due("a field that is not private", f.toString(), "public static final int LineCollector.NONE");
            }
        }
        check.due("fields that are not private", seen, 1);
    }
}

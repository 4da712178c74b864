import java.lang.reflect.Constructor;
import java.lang.reflect.Field;
import java.lang.reflect.Method;
import java.lang.reflect.Modifier;
import java.util.Arrays;
import java.util.Set;
import java.util.TreeSet;

/** The class shows the document's face and nothing beyond it. */
public final class FaceTest {
    private static final Set<String> FACE = new TreeSet<>(Arrays.asList(
            "boolean type(long, int) throws []",
            "int load() throws [IllegalArgumentException]",
            "int fault(int) throws []",
            "int count(int) throws []",
            "boolean flip(int, boolean) throws [NoSuchElementException]",
            "int vector(int, int, int, int) throws [NoSuchElementException]",
            "int why(int, int, int, int) throws [NoSuchElementException]",
            "void enter(int, int) throws [NoSuchElementException]",
            "void put(int, int, int) throws [NoSuchElementException]",
            "int label(int, int) throws []",
            "boolean ask(int, int, int) throws [NoSuchElementException]",
            "int run(int, int) throws [NoSuchElementException, UnsupportedOperationException]",
            "int make(int, int, int) throws [NoSuchElementException, UnsupportedOperationException]",
            "int cache(int) throws []",
            "int note(int, int) throws []"));

    public static void main(String[] args) {
        Check check = new Check();
        Class<?> face = TypeGuard.class;
        check.same("modifiers", Modifier.PUBLIC | Modifier.FINAL, face.getModifiers());
        check.same("NONE", -1, TypeGuard.NONE);
        Set<String> found = new TreeSet<>();
        Set<String> names = new TreeSet<>();
        for (Method method : face.getDeclaredMethods()) {
            if (!Modifier.isPrivate(method.getModifiers())) {
                found.add(described(method));
                names.add(method.getName());
                check.that(method + " is of objects", !Modifier.isStatic(method.getModifiers()));
            }
        }
        check.that("the methods are " + found, found.equals(FACE));
        for (Method method : face.getDeclaredMethods()) {
            if (Modifier.isPrivate(method.getModifiers())) {
                check.that(method.getName() + " is no name of the face", !names.contains(method.getName()));
            }
        }
        checkFields(check, face);
        Constructor<?>[] constructors = face.getDeclaredConstructors();
        check.same("constructors", 1, constructors.length);
        check.that("it is public and takes nothing",
                Modifier.isPublic(constructors[0].getModifiers()) && constructors[0].getParameterCount() == 0);
        check.end();
    }

    private static void checkFields(Check check, Class<?> face) {
        for (Field field : face.getDeclaredFields()) {
            int modifiers = field.getModifiers();
            check.that(field + " is private or NONE",
                    Modifier.isPrivate(modifiers) || field.getName().equals("NONE"));
            check.that(field + " is final if it is static",
                    !Modifier.isStatic(modifiers) || Modifier.isFinal(modifiers));
        }
    }

    private static String described(Method method) {
        Set<String> thrown = new TreeSet<>();
        for (Class<?> kind : method.getExceptionTypes()) {
            thrown.add(kind.getSimpleName());
        }
        StringBuilder parameters = new StringBuilder();
        for (Class<?> kind : method.getParameterTypes()) {
            parameters.append(parameters.length() == 0 ? "" : ", ").append(kind.getSimpleName());
        }
        return method.getReturnType().getSimpleName() + " " + method.getName() + "(" + parameters + ") throws " + thrown;
    }
}

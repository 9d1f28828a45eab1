import java.lang.reflect.Constructor;
import java.lang.reflect.Field;
import java.lang.reflect.Method;
import java.lang.reflect.Modifier;
import java.util.Arrays;
import java.util.Set;
import java.util.TreeSet;

/** The public face of the document, and no more than that. */
public final class FaceTest {
    private static final String[] METHODS = {
        "boolean put(int, int, int)", "int get(int, int)", "int add(int, int, int)",
        "int subtract(int, int, int)", "int multiply(int, int, int)", "int divide(int, int, int, int)",
        "int power(int, int, int, int)", "int common(int, int, int)", "int compare(int, int)", "int say(int)",
        "boolean cut(int)", "int length()", "int at(int)", "int check()", "int place()",
        "boolean tell(int, int)", "int prove(int)",
    };

    private static final Checks checks = new Checks("FaceTest");

    public static void main(String[] args) throws IllegalAccessException {
        Class<?> face = PrimeCertificates.class;
        checks.due("final", Modifier.isFinal(face.getModifiers()), true);
        checks.due("BAD", PrimeCertificates.BAD, -1);
        checks.due("NO", PrimeCertificates.NO, -2);
        checks.due("FULL", PrimeCertificates.FULL, -3);
        checks.due("methods", methods(face), new TreeSet<>(Arrays.asList(METHODS)));
        checks.due("fields", fields(face), Set.of("BAD", "NO", "FULL"));
        Constructor<?>[] constructors = face.getDeclaredConstructors();
        checks.due("constructors", constructors.length, 1);
        checks.due("its parameters", constructors[0].getParameterCount(), 0);
        checks.due("public", Modifier.isPublic(constructors[0].getModifiers()), true);
        for (Class<?> inside : face.getDeclaredClasses()) {
            int modifiers = inside.getModifiers();
            checks.due(inside + " is public", Modifier.isPublic(modifiers) || Modifier.isProtected(modifiers), false);
            checks.due(inside + " is static", Modifier.isStatic(modifiers), true);
        }
        checks.finish();
    }

    private static Set<String> methods(Class<?> face) {
        Set<String> seen = new TreeSet<>();
        Set<String> hidden = new TreeSet<>();
        for (Method method : face.getDeclaredMethods()) {
            if (Modifier.isPrivate(method.getModifiers())) {
                hidden.add(method.getName());
                continue;
            }
            checks.due(method + " is public", Modifier.isPublic(method.getModifiers()), true);
            checks.due(method + " is static", Modifier.isStatic(method.getModifiers()), false);
            String parameters = Arrays.toString(method.getParameterTypes());
            seen.add(method.getReturnType() + " " + method.getName() + "("
                    + parameters.substring(1, parameters.length() - 1) + ")");
        }
        for (Method method : face.getDeclaredMethods()) {
            if (Modifier.isPublic(method.getModifiers())) {
                checks.due("a private " + method.getName(), hidden.contains(method.getName()), false);
            }
        }
        return seen;
    }

    private static Set<String> fields(Class<?> face) {
        Set<String> seen = new TreeSet<>();
        for (Field field : face.getDeclaredFields()) {
            if (!Modifier.isPrivate(field.getModifiers())) {
                seen.add(field.getName());
                checks.due(field + " is a constant", Modifier.toString(field.getModifiers()), "public static final");
            }
        }
        return seen;
    }
}

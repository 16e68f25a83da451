import java.lang.reflect.Constructor;
import java.lang.reflect.Field;
import java.lang.reflect.Method;
import java.lang.reflect.Modifier;
import java.util.Arrays;
import java.util.HashSet;
import java.util.List;
import java.util.Set;

/** The document's public face: everything that stands there, and nothing else that is not private. */
public final class FaceTest {
    private static final List<String> KINDS = List.of(
        "SET", "ADD", "SUB", "MUL", "GET", "PUT", "IFPOS", "LOOP", "END", "CALL", "PRINT", "BODY");
    private static final List<String> ANSWERS = List.of(
        "OK", "BAD", "FULL", "MALFORMED", "TWICE", "MISSING", "RECURSIVE", "TOO_LONG");
    private static final Set<String> METHODS = Set.of(
        "int add(int, int, int, int)", "int retract()", "boolean start(int, int)", "int check()", "int run()",
        "int printed()", "int output(int)", "int variable(int)", "int cell(int, int)", "void clear()");

    public static void main(String[] args) throws ReflectiveOperationException {
        Class<?> face = SelfModArrayComp.class;
        Due.is("the class is public", Modifier.isPublic(face.getModifiers()), true);
        Due.is("the class is final", Modifier.isFinal(face.getModifiers()), true);
        Due.is("the class is in no package", face.getPackageName().isEmpty(), true);
        Due.is("nested classes", face.getDeclaredClasses().length, 0);
        constants(face);
        constructors(face);
        methods(face);
        Due.end();
    }

    private static void constants(Class<?> face) throws ReflectiveOperationException {
        int open = 0;
        for (Field field : face.getDeclaredFields()) {
            int modifiers = field.getModifiers();
            if (!Modifier.isPrivate(modifiers)) {
                open++;
                boolean constant = Modifier.isPublic(modifiers) && Modifier.isStatic(modifiers) && Modifier.isFinal(modifiers);
                Due.is(field.getName() + " is a public constant of int", constant && field.getType() == int.class, true);
                Due.is(field.getName(), field.getInt(null), value(field.getName()));
            }
        }
        Due.is("constants", open, KINDS.size() + ANSWERS.size());
    }

    // The kinds count up from 0, the answers down.
    private static int value(String name) {
        return KINDS.contains(name) ? KINDS.indexOf(name) : -ANSWERS.indexOf(name);
    }

    private static void constructors(Class<?> face) {
        Constructor<?>[] constructors = face.getDeclaredConstructors();
        Due.is("constructors", constructors.length, 1);
        Due.is("the constructor is public", Modifier.isPublic(constructors[0].getModifiers()), true);
        Due.is("the constructor's parameters", constructors[0].getParameterCount(), 0);
    }

    private static void methods(Class<?> face) {
        Set<String> open = new HashSet<>();
        Set<String> openNames = new HashSet<>();
        Set<String> privateNames = new HashSet<>();
        for (Method method : face.getDeclaredMethods()) {
            if (Modifier.isPrivate(method.getModifiers())) {
                privateNames.add(method.getName());
            } else {
                Due.is(method + " is public", Modifier.isPublic(method.getModifiers()), true);
                Due.is(method + " is static", Modifier.isStatic(method.getModifiers()), false);
                open.add(signature(method));
                openNames.add(method.getName());
            }
        }
        Due.is("the methods " + open + " are those of the document", open.equals(METHODS), true);
        privateNames.retainAll(openNames);
        Due.is("private methods with a public one's name " + privateNames, privateNames.size(), 0);
    }

    private static String signature(Method method) {
        String parameters = Arrays.toString(method.getParameterTypes());
        String inside = parameters.substring(1, parameters.length() - 1);
        return method.getReturnType() + " " + method.getName() + "(" + inside + ")";
    }
}

import java.lang.reflect.Constructor;
import java.lang.reflect.Field;
import java.lang.reflect.Method;
import java.lang.reflect.Modifier;
import java.util.Arrays;
import java.util.TreeSet;

/** The public face of the document, and LANGUAGE.md's rule 1: there is no other member to be seen. */
public final class FaceTest {
    private static final String INDEX = " IndexOutOfBoundsException";
    private static final String ARGUMENT = " IllegalArgumentException";
    private static final String UNSUPPORTED = " UnsupportedOperationException";

    private static final String[] METHODS = {
        "int put(int, int, int)" + INDEX + ARGUMENT,
        "int paint(int, int)",
        "int encode()",
        "int bits()",
        "int bit(int, int)" + INDEX + ARGUMENT,
        "int length(int)" + INDEX,
        "long distortion(int)" + INDEX,
        "int kind(int)" + INDEX,
        "boolean terminated(int)" + INDEX,
        "int feed(int)" + ARGUMENT + UNSUPPORTED,
        "int pass(int)" + ARGUMENT + UNSUPPORTED,
        "int turn(int)" + INDEX,
        "int decode(int, int)" + ARGUMENT,
        "int at(int, int)" + INDEX,
        "int known(int, int)" + INDEX,
        "int told(int)",
        "void clear()"};

    public static void main(String[] args) {
        Due.answer("NONE", BitPlanes.NONE, -1);
        Due.answer("RAW", BitPlanes.RAW, 19);
        Due.answer("modifiers of the class", BitPlanes.class.getModifiers(),
            Modifier.PUBLIC | Modifier.FINAL);
        methods();
        fields();
        constructors();
        classesInside();
        Due.end();
    }

    private static void methods() {
        TreeSet<String> got = new TreeSet<>();
        TreeSet<String> names = new TreeSet<>();
        for (Method method : BitPlanes.class.getDeclaredMethods()) {
            if (!Modifier.isPrivate(method.getModifiers())) {
                Due.answer("modifiers of " + method, method.getModifiers(), Modifier.PUBLIC);
                got.add(written(method));
                names.add(method.getName());
            }
        }
        Due.outcome("the methods", got.toString(), new TreeSet<>(Arrays.asList(METHODS)).toString());
        for (Method method : BitPlanes.class.getDeclaredMethods()) {
            if (Modifier.isPrivate(method.getModifiers())) {
                Due.answer("a private " + method.getName(), names.contains(method.getName()), false);
            }
        }
    }

    private static String written(Method method) {
        StringBuilder text = new StringBuilder();
        text.append(method.getReturnType()).append(' ').append(method.getName()).append('(');
        String between = "";
        for (Class<?> type : method.getParameterTypes()) {
            text.append(between).append(type);
            between = ", ";
        }
        text.append(')');
        for (Class<?> type : method.getExceptionTypes()) {
            text.append(' ').append(type.getSimpleName());
        }
        return text.toString();
    }

    private static void fields() {
        TreeSet<String> got = new TreeSet<>();
        for (Field field : BitPlanes.class.getDeclaredFields()) {
            if (!Modifier.isPrivate(field.getModifiers())) {
                got.add(Modifier.toString(field.getModifiers()) + " " + field.getType() + " "
                    + field.getName());
            }
        }
        Due.outcome("the constants", got.toString(),
            "[public static final int NONE, public static final int RAW]");
    }

    private static void constructors() {
        Constructor<?>[] all = BitPlanes.class.getDeclaredConstructors();
        Due.answer("constructors", all.length, 1);
        Due.outcome("the constructor", all[0].toString(), "public BitPlanes(int,int,int,int)");
    }

    private static void classesInside() {
        for (Class<?> inside : BitPlanes.class.getDeclaredClasses()) {
            Due.answer(inside + " is static", Modifier.isStatic(inside.getModifiers()), true);
            Due.answer(inside + " is public", Modifier.isPublic(inside.getModifiers()), false);
            Due.answer(inside + " is protected", Modifier.isProtected(inside.getModifiers()), false);
        }
    }
}

import java.io.IOException;
import java.lang.reflect.Constructor;
import java.lang.reflect.Field;
import java.lang.reflect.Method;
import java.lang.reflect.Modifier;
import java.nio.file.Files;
import java.nio.file.Path;
import java.util.ArrayList;
import java.util.List;
import java.util.Set;
import java.util.regex.Pattern;

/** Rules of LANGUAGE.md that can be seen from outside; rule 1, the face, is in FaceTest. */
public final class LanguageTest {
    private static final Set<Class<?>> CONSTANTS = Set.of(int.class, long.class, boolean.class,
        char.class, String.class, int[].class, long[].class, char[].class, byte[].class);

    public static void main(String[] args) throws IOException {
        wordsThatAreNotThere();
        List<Class<?>> classes = new ArrayList<>(List.of(BitPlanes.class.getDeclaredClasses()));
        classes.add(BitPlanes.class);
        Due.by("LANGUAGE.md 11: the file has at most some twelve classes");
        Due.answer("there are few classes", classes.size() <= 12, true);
        for (Class<?> one : classes) {
            staticFields(one);
            countOfFields(one);
            countOfParameters(one);
        }
        Due.end();
    }

    /** The class needs none of these, though some would be allowed with care. */
    private static void wordsThatAreNotThere() throws IOException {
        String text = Files.readString(Path.of("src/main/java/BitPlanes.java"));
        String code = text.replaceAll("(?s)/\\*.*?\\*/", "").replaceAll("//[^\n]*", "");
        String[] patterns = {"\\bpackage\\b", "\\bimport\\b", "\\btry\\b", "\\bcatch\\b", "\\bfinally\\b",
            "\\bsynchronized\\b", "\\bassert\\b", "\\binstanceof\\b", "->", "::", "Exact\\(", "\\bdouble\\b",
            "\\bfloat\\b", "\\bSystem\\b", "\\bThread\\b", "\\bjava\\."};
        Due.by("LANGUAGE.md 2, 3, 4, 6 and 13");
        for (String pattern : patterns) {
            Due.answer("there is " + pattern, Pattern.compile(pattern).matcher(code).find(), false);
        }
    }

    private static void staticFields(Class<?> one) {
        Due.by("LANGUAGE.md 5: Static fields are final: constants of int, long, boolean, char or String");
        for (Field field : one.getDeclaredFields()) {
            if (Modifier.isStatic(field.getModifiers())) {
                Due.answer(field + " is final", Modifier.isFinal(field.getModifiers()), true);
                Due.answer(field + " is a constant", CONSTANTS.contains(field.getType()), true);
            }
        }
    }

    private static void countOfFields(Class<?> one) {
        Due.by("LANGUAGE.md 11: a class some twenty fields beside its constants");
        int fields = 0;
        for (Field field : one.getDeclaredFields()) {
            fields += Modifier.isStatic(field.getModifiers()) ? 0 : 1;
        }
        Due.answer(one + " has few fields", fields <= 20, true);
    }

    private static void countOfParameters(Class<?> one) {
        Due.by("LANGUAGE.md 11: A method takes at most seven parameters.");
        for (Method method : one.getDeclaredMethods()) {
            Due.answer(method + " takes few", method.getParameterCount() <= 7, true);
        }
        for (Constructor<?> constructor : one.getDeclaredConstructors()) {
            Due.answer(constructor + " takes few", constructor.getParameterCount() <= 7, true);
        }
    }
}

import java.io.IOException;
import java.lang.reflect.Method;
import java.lang.reflect.Modifier;
import java.nio.file.Files;
import java.nio.file.Path;
import java.util.List;
import java.util.regex.Matcher;
import java.util.regex.Pattern;

/** README.md's example answers what is written beside it, and each call of the face is in it. */
public final class ReadmeTest {
    private static final Pattern NUMBER_BEHIND = Pattern.compile("// (-?\\d+)");

    private final List<String> lines;
    private int lineNow = 0;

    private ReadmeTest(List<String> lines) {
        this.lines = lines;
    }

    public static void main(String[] args) throws IOException {
        ReadmeTest readme = new ReadmeTest(Files.readAllLines(Path.of("README.md")));
        readme.example();
        readme.callsAndExceptions();
        Due.end();
    }

    private void example() {
        written("BitPlanes block = new BitPlanes(4, 4, 0, 0);");
        BitPlanes block = new BitPlanes(4, 4, 0, 0);
        written("block.put(1, 2, -5);");
        block.put(1, 2, -5);
        int passes = block.encode();
        says("int passes = block.encode();", passes);
        says("int bits = block.bits();", block.bits());
        says("int context = block.bit(0, 1);", block.bit(0, 1));
        says("int length = block.length(0);", block.length(0));
        says("long rest = block.distortion(0);", block.distortion(0));
        says("block.pass(block.bits());", block.pass(block.bits()));
        says("int done = block.decode(3, 1);", block.decode(3, 1));
        says("int value = block.at(1, 2);", block.at(1, 2));
        says("int plane = block.known(1, 2);", block.known(1, 2));
        says("done = block.decode(3, passes);", block.decode(3, passes));
        says("value = block.at(1, 2);", block.at(1, 2));
    }

    /** The next line that begins with these words, as the example's order matters. */
    private String written(String statement) {
        for (; lineNow < lines.size(); lineNow++) {
            if (lines.get(lineNow).startsWith(statement)) {
                return lines.get(lineNow++);
            }
        }
        Due.answer("README.md has, in this order: " + statement, false, true);
        return "";
    }

    private void says(String statement, long answer) {
        Matcher number = NUMBER_BEHIND.matcher(written(statement));
        Due.answer("README.md says what this answers: " + statement, number.find(), true);
        if (number.reset().find()) {
            Due.answer(statement, answer, Long.parseLong(number.group(1)));
        }
    }

    private void callsAndExceptions() {
        String text = String.join("\n", lines);
        for (Method method : BitPlanes.class.getDeclaredMethods()) {
            if (Modifier.isPublic(method.getModifiers())) {
                named(text, "| `" + method.getName() + "(");
                for (Class<?> exception : method.getExceptionTypes()) {
                    named(text, "`" + exception.getSimpleName() + "`");
                }
            }
        }
        named(text, "`NONE` is -1");
        named(text, "`RAW` is 19");
        named(text, ".ci/run");
    }

    private static void named(String text, String name) {
        Due.answer("README.md names " + name, text.contains(name), true);
    }
}

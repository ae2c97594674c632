import java.io.IOException;
import java.lang.reflect.InvocationTargetException;
import java.lang.reflect.Method;
import java.nio.charset.StandardCharsets;
import java.nio.file.Files;
import java.nio.file.Path;
import java.util.regex.Matcher;
import java.util.regex.Pattern;

/** Runs the examples of README.md: each line is a call, with what it answers behind it. */
public final class ReadmeTest {
    private static final Pattern CALL = Pattern.compile("press\\.(\\w+)\\((.*?)\\);\\s*// (-?\\d+).*");

    private ReadmeTest() {
    }

    public static void main(String[] args) throws IOException, ReflectiveOperationException {
        String text = Files.readString(Path.of("README.md"), StandardCharsets.UTF_8);
        Matcher block = Pattern.compile("(?s)```java\n(.*?)```").matcher(text);
        int blocks = 0;
        while (block.find()) {
            blocks++;
            run(block.group(1).split("\n"));
        }
        Kit.due("examples", blocks, 2);
        names(text);
        Kit.close("ReadmeTest");
    }

    private static void run(String[] lines) throws ReflectiveOperationException {
        Kit.due("its first line", lines[0], "CharstringPress press = new CharstringPress();");
        CharstringPress press = new CharstringPress();
        for (int i = 1; i < lines.length; i++) {
            Matcher call = CALL.matcher(lines[i]);
            Kit.due("a call: " + lines[i], call.matches() ? 1 : 0, 1);
            if (call.matches()) {
                Kit.due(lines[i], answer(press, call.group(1), call.group(2)), Long.parseLong(call.group(3)));
            }
        }
    }

    private static long answer(CharstringPress press, String name, String arguments)
            throws IllegalAccessException, InvocationTargetException, NoSuchMethodException {
        String[] told = arguments.isEmpty() ? new String[0] : arguments.split(", ");
        Object[] values = new Object[told.length];
        Class<?>[] types = new Class<?>[told.length];
        for (int i = 0; i < told.length; i++) {
            values[i] = Long.decode(told[i]).intValue();
            types[i] = int.class;
        }
        return ((Number) CharstringPress.class.getMethod(name, types).invoke(press, values)).longValue();
    }

    /** Every call and every test of the project is told. */
    private static void names(String text) throws IOException {
        for (Method method : CharstringPress.class.getMethods()) {
            if (method.getDeclaringClass() == CharstringPress.class) {
                Kit.due(method.getName() + " is told", text.contains("| `" + method.getName() + "(") ? 1 : 0, 1);
            }
        }
        try (var files = Files.list(Path.of("src/test/java"))) {
            for (Path file : (Iterable<Path>) files::iterator) {
                String name = file.getFileName().toString().replace(".java", "");
                if (name.endsWith("Test")) {
                    Kit.due(name + " is told", text.contains("| " + name + " |") ? 1 : 0, 1);
                }
            }
        }
    }
}

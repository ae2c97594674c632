import java.lang.reflect.Constructor;
import java.lang.reflect.Field;
import java.lang.reflect.Member;
import java.lang.reflect.Method;
import java.lang.reflect.Modifier;
import java.nio.charset.StandardCharsets;
import java.nio.file.Files;
import java.nio.file.Path;
import java.util.Arrays;
import java.util.List;
import java.util.regex.Matcher;
import java.util.regex.Pattern;
import java.util.stream.Collectors;

/** The public face, and what of LANGUAGE.md can be seen from the source; its path is the argument. */
public final class RulesTest {
    private static final String FACE = "at(int,int,int)long back()int cipher(int,int)int code(int,int,int)int"
            + " count(int)int draw(int,int)int drawn(int)int end(int)int feed(int,int,int,int,int)int font(int)int"
            + " octet(int)int part(int)int plain(int,int)int read(int)int width()long";

    private RulesTest() {
    }

    public static void main(String[] args) throws Exception {
        face();
        String path = args.length > 0 ? args[0] : "src/main/java/CharstringPress.java";
        String source = Files.readString(Path.of(path), StandardCharsets.ISO_8859_1);
        String bare = source.replaceAll("(?s)/\\*.*?\\*/", "").replaceAll("//[^\n]*", "");
        words(bare);
        methods(bare);
        signs(source);
        Kit.close("RulesTest");
    }

    private static boolean isSeen(Member member) {
        return !Modifier.isPrivate(member.getModifiers()) && !member.isSynthetic();
    }

    private static void face() {
        Class<?> face = CharstringPress.class;
        Kit.due("public and final", face.getModifiers(), Modifier.PUBLIC | Modifier.FINAL);
        String methods = Arrays.stream(face.getDeclaredMethods()).filter(RulesTest::isSeen).map(RulesTest::told).sorted()
                .collect(Collectors.joining(" "));
        Kit.due("the methods that are seen", methods, FACE);
        for (Method method : face.getDeclaredMethods()) {
            Kit.due(method.getName() + " is public or private", Modifier.isPublic(method.getModifiers())
                    || Modifier.isPrivate(method.getModifiers()) || method.isSynthetic() ? 1 : 0, 1);
        }
        String constants = Arrays.stream(face.getDeclaredFields()).filter(RulesTest::isSeen).map(Field::getName)
                .collect(Collectors.joining(" "));
        Kit.due("the fields that are seen", constants, "NONE");
        Constructor<?>[] made = face.getDeclaredConstructors();
        Kit.due("one constructor", made.length, 1);
        Kit.due("without arguments", made[0].getParameterCount(), 0);
        List<String> names = Arrays.stream(FACE.split(" ")).map(told -> told.substring(0, told.indexOf('('))).toList();
        for (Class<?> inside : face.getDeclaredClasses()) {
            Kit.due(inside.getSimpleName() + " is static", Modifier.isStatic(inside.getModifiers()) ? 1 : 0, 1);
            long fields = Arrays.stream(inside.getDeclaredFields()).filter(f -> !Modifier.isStatic(f.getModifiers()))
                    .count();
            Kit.due(inside.getSimpleName() + ": twenty fields", fields <= 20 ? 1 : 0, 1);
            for (Method method : inside.getDeclaredMethods()) {
                Kit.due(method + " has a name of its own", names.contains(method.getName()) ? 1 : 0, 0);
            }
        }
        Kit.due("twelve classes at most", face.getDeclaredClasses().length + 1 <= 12 ? 1 : 0, 1);
    }

    private static String told(Method method) {
        return method.getName() + Arrays.stream(method.getParameterTypes()).map(Class::getName)
                .collect(Collectors.joining(",", "(", ")")) + method.getReturnType().getName();
    }

    private static void words(String bare) {
        String[] ruledOut = {"throw", "throws", "try", "catch", "finally", "synchronized", "assert", "new Object",
            "toString", "hashCode", "System\\.(?!arraycopy)", "Random", "Thread", "\\w+Exact", "protected", "var",
            "double", "float", "native", "volatile", "Math\\.(sqrt|random|pow)"};
        for (String word : ruledOut) {
            Kit.due("'" + word + "' in the source", Pattern.compile("\\b" + word + "\\b").matcher(bare).find() ? 1 : 0, 0);
        }
        Kit.due("no lambda", bare.contains("->") ? 1 : 0, 0);
        Kit.due("no method reference", bare.contains("::") ? 1 : 0, 0);
        Matcher imports = Pattern.compile("(?m)^(import|package) (.*);").matcher(bare);
        while (imports.find()) {
            Kit.due("import " + imports.group(2), imports.group(2).equals("java.util.Arrays") ? 1 : 0, 1);
        }
        Matcher statics = Pattern.compile("(?m)^ *(private |public )?static (?!final|class)[^(]*;").matcher(bare);
        Kit.due("static fields are final", statics.find() ? 1 : 0, 0);
    }

    private static void methods(String bare) {
        String[] lines = bare.split("\n");
        int from = -1;
        String indent = "";
        for (int i = 0; i < lines.length; i++) {
            Matcher head = Pattern.compile("^(    |        )[a-zA-Z][^=;]*\\(([^)]*)\\) \\{$").matcher(lines[i]);
            if (head.find() && !lines[i].contains(" class ")) {
                from = i;
                indent = head.group(1);
                Kit.due(lines[i].trim() + ": seven parameters", head.group(2).split(",").length <= 7 ? 1 : 0, 1);
            } else if (from >= 0 && lines[i].equals(indent + "}")) {
                Kit.due(lines[from].trim() + ": sixty lines", i - from + 1 <= 60 ? 1 : 0, 1);
                from = -1;
            }
        }
    }

    private static void signs(String source) {
        for (int i = 0; i < source.length(); i++) {
            char sign = source.charAt(i);
            if (sign > 127 || sign < 32 && sign != '\n') {
                Kit.due("sign " + (int) sign + " at " + i, 1, 0);
            }
        }
    }
}

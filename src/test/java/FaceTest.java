import java.lang.reflect.Field;
import java.lang.reflect.Method;
import java.lang.reflect.Modifier;
import java.nio.file.Files;
import java.nio.file.Path;
import java.util.Arrays;
import java.util.List;
import java.util.TreeSet;
import java.util.regex.Matcher;
import java.util.regex.Pattern;

/** The public face, and the rules of LANGUAGE.md that can be seen from the names in the file. */
public final class FaceTest {
    private static final Check CHECK = new Check();
    private static final List<String> FACE = List.of(
            "int state(int,int)", "boolean initial(int)", "int transition(int,int,int)",
            "boolean guard(int,int,int,int)", "boolean action(int,int,int,int)", "int begin()", "boolean post(int)",
            "int step()", "int tick(int)", "void reset()", "int outcome()", "int active()", "int remembered(int)",
            "int variable(int)", "int listed(int)", "int waiting(int)");

    public static void main(String[] args) throws Exception {
        constants();
        members();
        source();
        CHECK.end("FaceTest");
    }

    private static void constants() {
        CHECK.due("BAD", MicrostepChart.BAD, -1);
        CHECK.due("FULL", MicrostepChart.FULL, -2);
        CHECK.due("ILL", MicrostepChart.ILL, -3);
        CHECK.due("EMPTY", MicrostepChart.EMPTY, -4);
    }

    private static void members() {
        Class<?> face = MicrostepChart.class;
        CHECK.due("public and final", face.getModifiers(), Modifier.PUBLIC | Modifier.FINAL);
        CHECK.due("one constructor", face.getDeclaredConstructors().length, 1);
        CHECK.due("without parameters", face.getDeclaredConstructors()[0].getParameterCount(), 0);
        TreeSet<String> methods = new TreeSet<>();
        TreeSet<String> names = new TreeSet<>();
        for (Method method : face.getDeclaredMethods()) {
            if (!Modifier.isPrivate(method.getModifiers())) {
                methods.add(signature(method));
                names.add(method.getName());
            }
        }
        CHECK.due("methods " + methods, methods.equals(new TreeSet<>(FACE)), true);
        TreeSet<String> fields = new TreeSet<>();
        for (Field field : face.getDeclaredFields()) {
            if (!Modifier.isPrivate(field.getModifiers())) {
                fields.add(field.getName());
            }
        }
        CHECK.due("fields " + fields, fields.equals(new TreeSet<>(List.of("BAD", "FULL", "ILL", "EMPTY"))), true);
        CHECK.due("at most twelve classes", face.getDeclaredClasses().length + 1 <= 12, true);
        for (Class<?> inside : face.getDeclaredClasses()) {
            CHECK.due(inside + " is static", Modifier.isStatic(inside.getModifiers()), true);
            CHECK.due(inside + " has few fields", inside.getDeclaredFields().length <= 20, true);
            for (Method method : inside.getDeclaredMethods()) {
                CHECK.due(inside + " " + method.getName(), names.contains(method.getName()), false);
                CHECK.due(method + " has few parameters", method.getParameterCount() <= 7, true);
            }
        }
    }

    private static String signature(Method method) {
        String[] types = Arrays.stream(method.getParameterTypes()).map(Class::getName).toArray(String[]::new);
        return method.getReturnType() + " " + method.getName() + "(" + String.join(",", types) + ")";
    }

    private static void source() throws Exception {
        String text = Files.readString(Path.of("src/main/java/MicrostepChart.java"));
        String code = text.replaceAll("(?s)/\\*.*?\\*/", " ").replaceAll("//[^\n]*", " ");
        Matcher words = Pattern.compile("\\b(package|throw|throws|try|catch|synchronized|assert|Exception|System|Object"
                + "|Math|Random|Thread|hashCode|toString|equals|static\\s*\\{)\\b|->|::").matcher(code);
        while (words.find()) {
            CHECK.due("word '" + words.group() + "' in the source", 1, 0);
        }
        Matcher imports = Pattern.compile("import\\s+([^;]+);").matcher(code);
        while (imports.find()) {
            CHECK.due("import " + imports.group(1), imports.group(1).equals("java.util.Arrays"), true);
        }
    }
}

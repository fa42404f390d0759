import java.lang.reflect.Field;
import java.lang.reflect.Method;
import java.lang.reflect.Modifier;
import java.util.Arrays;
import java.util.Set;
import java.util.TreeSet;

/** The public face: what the document shows of the class, and nothing beside it. */
public final class FaceTest {
    private static final Check CHECK = new Check();
    private static final Class<?> FACE = MicrostepChart.class;
    private static final int CONSTANT = Modifier.PUBLIC | Modifier.STATIC | Modifier.FINAL;
    private static final Set<String> METHODS = Set.of(
            "int state(int,int)", "boolean initial(int)", "int transition(int,int,int)",
            "boolean guard(int,int,int,int)", "boolean action(int,int,int,int)", "int begin()", "boolean post(int)",
            "int step()", "int tick(int)", "void reset()", "int outcome()", "int active()", "int remembered(int)",
            "int variable(int)", "int listed(int)", "int waiting(int)");

    public static void main(String[] args) {
        CHECK.due("public and final", FACE.getModifiers(), Modifier.PUBLIC | Modifier.FINAL);
        CHECK.due("it extends nothing", FACE.getSuperclass() == Object.class, true);
        CHECK.due("it implements nothing", FACE.getInterfaces().length, 0);
        constants();
        constructor();
        methods();
        CHECK.end("FaceTest");
    }

    private static void constants() {
        CHECK.due("BAD", MicrostepChart.BAD, -1);
        CHECK.due("FULL", MicrostepChart.FULL, -2);
        CHECK.due("ILL", MicrostepChart.ILL, -3);
        CHECK.due("EMPTY", MicrostepChart.EMPTY, -4);
        TreeSet<String> names = new TreeSet<>();
        for (Field field : FACE.getDeclaredFields()) {
            if (!Modifier.isPrivate(field.getModifiers())) {
                names.add(field.getType() + " " + field.getName());
                CHECK.due("constant " + field.getName(), field.getModifiers(), CONSTANT);
            }
        }
        CHECK.due("fields " + names, names.equals(Set.of("int BAD", "int FULL", "int ILL", "int EMPTY")), true);
    }

    private static void constructor() {
        CHECK.due("one constructor", FACE.getDeclaredConstructors().length, 1);
        CHECK.due("it is public", FACE.getDeclaredConstructors()[0].getModifiers(), Modifier.PUBLIC);
        CHECK.due("without parameters", FACE.getDeclaredConstructors()[0].getParameterCount(), 0);
    }

    private static void methods() {
        TreeSet<String> found = new TreeSet<>();
        for (Method method : FACE.getDeclaredMethods()) {
            if (!Modifier.isPrivate(method.getModifiers())) {
                found.add(signature(method));
                CHECK.due("public " + method.getName(), method.getModifiers(), Modifier.PUBLIC);
            }
        }
        CHECK.due("methods " + found, found.equals(METHODS), true);
    }

    private static String signature(Method method) {
        String[] types = Arrays.stream(method.getParameterTypes()).map(Class::getName).toArray(String[]::new);
        return method.getReturnType() + " " + method.getName() + "(" + String.join(",", types) + ")";
    }
}

import java.lang.reflect.Constructor;
import java.lang.reflect.Field;
import java.lang.reflect.Method;
import java.lang.reflect.Modifier;
import java.util.Arrays;
import java.util.Set;
import java.util.TreeSet;

/** The public face is the document's, whole and nothing beside it. */
public final class FaceTest {
    private static final String[] METHODS = {
        "boolean tide(int, int)",
        "int set(int, int)",
        "boolean tugs(int, int, int)",
        "int ship(int, int, int, int, int, int, int)",
        "int quay(int, int, boolean, int, int)",
        "boolean foul(int, int, boolean)",
        "int arrives(int, int)",
        "int count(int)",
        "int first(int, int, int)",
        "int may(int, int)",
        "boolean put(int, int)",
        "int at(int) throws NoSuchElementException",
        "int wrong()",
        "int best()",
        "int mend()",
        "int left(int)",
        "int plan()",
        "int in(int)",
        "int parade(int)",
        "int minutes()",
        "int open(int, int, int)"};

    public static void main(String[] args) {
        int modifiers = TallShips.class.getModifiers();
        Due.same("the class is public", Modifier.isPublic(modifiers), true);
        Due.same("the class is final", Modifier.isFinal(modifiers), true);
        Due.same("NONE", TallShips.NONE, -1);
        methods();
        fields();
        constructors();
        Due.end("face");
    }

    private static void methods() {
        Set<String> left = new TreeSet<>(Arrays.asList(METHODS));
        Set<String> names = new TreeSet<>();
        for (Method each : TallShips.class.getDeclaredMethods()) {
            if (!Modifier.isPrivate(each.getModifiers())) {
                Due.same("of the document: " + written(each), left.remove(written(each)), true);
                Due.same("public, not static: " + each, each.getModifiers(), Modifier.PUBLIC);
                names.add(each.getName());
            }
        }
        Due.same("not there: " + left, left.size(), 0);
        for (Method each : TallShips.class.getDeclaredMethods()) {
            boolean shared = Modifier.isPrivate(each.getModifiers()) && names.contains(each.getName());
            Due.same("private with a public name: " + each, shared, false);
        }
    }

    private static String written(Method method) {
        StringBuilder text = new StringBuilder();
        text.append(method.getReturnType().getSimpleName()).append(' ').append(method.getName()).append('(');
        String between = "";
        for (Class<?> each : method.getParameterTypes()) {
            text.append(between).append(each.getSimpleName());
            between = ", ";
        }
        text.append(')');
        for (Class<?> each : method.getExceptionTypes()) {
            text.append(" throws ").append(each.getSimpleName());
        }
        return text.toString();
    }

    private static void fields() {
        for (Field each : TallShips.class.getDeclaredFields()) {
            boolean isPrivate = Modifier.isPrivate(each.getModifiers());
            Due.same("private or NONE: " + each, isPrivate || each.getName().equals("NONE"), true);
            boolean isStatic = Modifier.isStatic(each.getModifiers());
            Due.same("static is final: " + each, !isStatic || Modifier.isFinal(each.getModifiers()), true);
        }
    }

    private static void constructors() {
        Constructor<?>[] all = TallShips.class.getDeclaredConstructors();
        Due.same("constructors", all.length, 1);
        Due.same("public", Modifier.isPublic(all[0].getModifiers()), true);
        Due.same("takes nothing", all[0].getParameterCount(), 0);
    }
}

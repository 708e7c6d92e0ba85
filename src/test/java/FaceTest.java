import java.lang.reflect.Constructor;
import java.lang.reflect.Field;
import java.lang.reflect.Member;
import java.lang.reflect.Method;
import java.lang.reflect.Modifier;
import java.util.Arrays;
import java.util.Set;
import java.util.TreeSet;

/** The visible members are those of the document's face and no others. */
public final class FaceTest {
    private static final Set<String> FACE = new TreeSet<>(Arrays.asList(
        "public static final int BAD_ARG",
        "public static final int FULL",
        "public static final int NONE",
        "public PforDelta()",
        "public int append(int, int)",
        "public int run(int, int, int)",
        "public int insert(int, int)",
        "public int remove(int, int)",
        "public int clear(int)",
        "public int size(int)",
        "public int at(int, int)",
        "public int seek(int, int)",
        "public boolean has(int, int)",
        "public int sum(int, int, int)",
        "public int blocks(int)",
        "public int base(int, int)",
        "public int blockSize(int, int)",
        "public int packed()",
        "public int common()",
        "public int commonAt(int)",
        "public int tail(int)"));

    public static void main(String[] args) {
        Check.same("the class's modifiers", Modifier.toString(PforDelta.class.getModifiers()), "public final");
        Check.same("the set of visible members", visibleMembers(), FACE);
        Check.due("nested classes", PforDelta.class.getDeclaredClasses().length, 0);
        Check.due("BAD_ARG", PforDelta.BAD_ARG, -1);
        Check.due("FULL", PforDelta.FULL, -2);
        Check.due("NONE", PforDelta.NONE, -4);
        privateMethodsHaveNamesOfTheirOwn();
        staticFieldsAreNumbers();
        Check.finish();
    }

    private static Set<String> visibleMembers() {
        Set<String> found = new TreeSet<>();
        for (Field field : PforDelta.class.getDeclaredFields()) {
            if (isVisible(field)) {
                found.add(Modifier.toString(field.getModifiers()) + " " + field.getType() + " " + field.getName());
            }
        }
        for (Constructor<?> constructor : PforDelta.class.getDeclaredConstructors()) {
            if (isVisible(constructor)) {
                found.add(Modifier.toString(constructor.getModifiers()) + " PforDelta("
                    + parameters(constructor.getParameterTypes()) + ")");
            }
        }
        for (Method method : PforDelta.class.getDeclaredMethods()) {
            if (isVisible(method)) {
                found.add(Modifier.toString(method.getModifiers()) + " " + method.getReturnType() + " "
                    + method.getName() + "(" + parameters(method.getParameterTypes()) + ")");
            }
        }
        return found;
    }

    private static boolean isVisible(Member member) {
        return !Modifier.isPrivate(member.getModifiers());
    }

    private static String parameters(Class<?>[] types) {
        StringBuilder text = new StringBuilder();
        for (Class<?> type : types) {
            text.append(text.length() == 0 ? "" : ", ").append(type);
        }
        return text.toString();
    }

    private static void privateMethodsHaveNamesOfTheirOwn() {
        for (Method method : PforDelta.class.getDeclaredMethods()) {
            for (Method other : PforDelta.class.getDeclaredMethods()) {
                boolean clash = !isVisible(method) && isVisible(other) && method.getName().equals(other.getName());
                Check.due("a private method bears the public name " + method.getName(), clash, false);
            }
        }
    }

    private static void staticFieldsAreNumbers() {
        for (Field field : PforDelta.class.getDeclaredFields()) {
            if (Modifier.isStatic(field.getModifiers())) {
                boolean fine = Modifier.isFinal(field.getModifiers())
                    && (field.getType() == int.class || field.getType() == long.class);
                Check.due(field.getName() + " is a constant of int or long", fine, true);
            }
        }
    }
}

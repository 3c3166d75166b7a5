import java.lang.reflect.Constructor;
import java.lang.reflect.Field;
import java.lang.reflect.Method;
import java.lang.reflect.Modifier;
import java.util.Arrays;
import java.util.Set;
import java.util.TreeSet;

/** The public face is the document's, and nothing else can be seen from outside. */
public final class FaceTest {
    private static final String[] FACE = {
        "int BAD_ARG = -1", "int NONE = -4", "CurveGroups()", "int curve(int, int, int)", "int points()",
        "int x(int)", "int y(int)", "int find(int, int)", "int add(int, int)", "int negate(int)",
        "int times(int, int)", "int order(int)", "int exponent()", "int width()", "int generator()",
        "int torsion(int)", "int ofOrder(int)", "int logarithm(int, int)", "int roots(int, int)",
        "int twist()", "int changes(int, int)"
    };
    private static int wrong = 0;

    public static void main(String[] args) throws IllegalAccessException {
        Set<String> due = new TreeSet<>(Arrays.asList(FACE));
        Set<String> seen = new TreeSet<>();
        constants(seen);
        constructors(seen);
        methods(seen);
        check(due.equals(seen), "the face is " + seen + ", due is " + due);
        int modifiers = CurveGroups.class.getModifiers();
        check(Modifier.isPublic(modifiers) && Modifier.isFinal(modifiers), "the class is not public and final");
        check(CurveGroups.class.getDeclaredClasses().length == 0, "there is a nested class");
        System.out.println(wrong == 0 ? "the face is as due" : wrong + " faults in the face");
        if (wrong != 0) {
            System.exit(1);
        }
    }

    private static void constants(Set<String> seen) throws IllegalAccessException {
        for (Field field : CurveGroups.class.getDeclaredFields()) {
            int modifiers = field.getModifiers();
            if (Modifier.isPrivate(modifiers)) {
                continue;
            }
            boolean constant = Modifier.isPublic(modifiers) && Modifier.isStatic(modifiers)
                && Modifier.isFinal(modifiers);
            check(constant, "no public constant: " + field);
            if (constant) {
                seen.add(field.getType() + " " + field.getName() + " = " + field.get(null));
            }
        }
    }

    private static void constructors(Set<String> seen) {
        for (Constructor<?> constructor : CurveGroups.class.getDeclaredConstructors()) {
            check(Modifier.isPublic(constructor.getModifiers()), "not public: " + constructor);
            seen.add("CurveGroups" + list(constructor.getParameterTypes()));
        }
    }

    private static void methods(Set<String> seen) {
        for (Method method : CurveGroups.class.getDeclaredMethods()) {
            int modifiers = method.getModifiers();
            if (Modifier.isPrivate(modifiers)) {
                continue;
            }
            check(Modifier.isPublic(modifiers) && !Modifier.isStatic(modifiers), "no public method: " + method);
            seen.add(method.getReturnType() + " " + method.getName() + list(method.getParameterTypes()));
        }
    }

    private static String list(Class<?>[] types) {
        StringBuilder text = new StringBuilder("(");
        for (Class<?> type : types) {
            text.append(text.length() == 1 ? "" : ", ").append(type.getName());
        }
        return text.append(")").toString();
    }

    private static void check(boolean holds, String fault) {
        if (!holds) {
            wrong++;
            System.out.println(fault);
        }
    }
}

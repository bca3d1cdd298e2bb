import java.lang.reflect.Constructor;
import java.lang.reflect.Field;
import java.lang.reflect.Method;
import java.lang.reflect.Modifier;
import java.util.Arrays;
import java.util.Set;
import java.util.TreeSet;

// The class has the document's public face, with its values, and no other member that can be seen from outside.
public final class FaceTest {
    private static final Set<String> FACE = new TreeSet<>(Arrays.asList(
        "BAD_VERTEX = -1", "BAD_WEIGHT = -2", "BAD_MODE = -3", "BAD_PRICE = -4", "NO_SET = -5",
        "FREE = 0", "PINNED = 1", "BARRED = 2",
        "new(int)",
        "int edge(int, int, int)", "int bonus(int, int)", "int mode(int, int)", "int weight(int)",
        "int densityTop()", "int densityBottom()", "int densest()",
        "int excess(int, int)", "int excessSet(int, int)"));

    private static int wrong = 0;

    private static void fault(String text) {
        wrong++;
        System.out.println(text);
    }

    public static void main(String[] args) throws IllegalAccessException {
        Class<?> type = DensestSubgraph.class;
        if (!Modifier.isPublic(type.getModifiers()) || !Modifier.isFinal(type.getModifiers())) {
            fault("the class is not public and final");
        }
        if (type.getDeclaredClasses().length != 0) {
            fault("the class has a nested class");
        }
        Set<String> seen = visibleMembers(type);
        if (!seen.equals(FACE)) {
            fault("the face is " + seen + ", due is " + FACE);
        }
        checkNoSharedName(type);
        checkStaticFields(type);
        System.out.println(wrong == 0 ? "the face is as due" : wrong + " faults in the face");
        if (wrong != 0) {
            System.exit(1);
        }
    }

    private static Set<String> visibleMembers(Class<?> type) throws IllegalAccessException {
        Set<String> seen = new TreeSet<>();
        for (Field field : type.getDeclaredFields()) {
            if (!Modifier.isPrivate(field.getModifiers())) {
                boolean constant = field.getModifiers() == (Modifier.PUBLIC | Modifier.STATIC | Modifier.FINAL);
                seen.add(field.getName() + " = " + (constant ? field.getInt(null) : "no public constant"));
            }
        }
        for (Constructor<?> constructor : type.getDeclaredConstructors()) {
            if (!Modifier.isPrivate(constructor.getModifiers())) {
                seen.add(otherThanPublic(constructor.getModifiers()) + "new" + list(constructor.getParameterTypes()));
            }
        }
        for (Method method : type.getDeclaredMethods()) {
            if (!Modifier.isPrivate(method.getModifiers())) {
                seen.add(otherThanPublic(method.getModifiers()) + method.getReturnType().getName() + " "
                    + method.getName() + list(method.getParameterTypes()));
            }
        }
        return seen;
    }

    private static String otherThanPublic(int modifiers) {
        return modifiers == Modifier.PUBLIC ? "" : "[" + Modifier.toString(modifiers) + "] ";
    }

    private static String list(Class<?>[] types) {
        StringBuilder text = new StringBuilder();
        for (Class<?> type : types) {
            text.append(text.length() == 0 ? "" : ", ").append(type.getName());
        }
        return "(" + text + ")";
    }

    private static void checkNoSharedName(Class<?> type) {
        for (Method hidden : type.getDeclaredMethods()) {
            for (Method open : type.getDeclaredMethods()) {
                boolean differ = Modifier.isPrivate(hidden.getModifiers()) && !Modifier.isPrivate(open.getModifiers());
                if (differ && hidden.getName().equals(open.getName())) {
                    fault("a private method bears the public name " + open.getName());
                }
            }
        }
    }

    private static void checkStaticFields(Class<?> type) {
        for (Field field : type.getDeclaredFields()) {
            boolean number = field.getType() == int.class || field.getType() == long.class;
            if (Modifier.isStatic(field.getModifiers()) && !(number && Modifier.isFinal(field.getModifiers()))) {
                fault("the static field " + field.getName() + " is not a constant int or long");
            }
        }
    }
}

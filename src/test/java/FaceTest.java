import java.lang.reflect.Constructor;
import java.lang.reflect.Field;
import java.lang.reflect.Method;
import java.lang.reflect.Modifier;
import java.util.Arrays;
import java.util.HashSet;
import java.util.Set;
import java.util.TreeSet;

/** The class has the public face of the document, and nothing else that can be seen from outside. */
public final class FaceTest {
    private static final Set<String> FACE = new TreeSet<>(Arrays.asList(
        "public static final int NUMBER",
        "public static final int DIV_ERROR",
        "public static final int REF_ERROR",
        "public static final int CIRCULAR",
        "public static final int NONE",
        "public IndirectSheet()",
        "public boolean put(int,int)",
        "public boolean formula(int,int,int,int)",
        "public boolean copy(int,int)",
        "public int operation(int)",
        "public int operand(int,int)",
        "public int state(int)",
        "public int value(int)",
        "public int circular()",
        "public int needs(int)",
        "public int reached(int)",
        "public int changed()",
        "public int count(int)"));

    private static int wrong = 0;

    public static void main(String[] args) {
        Class<?> face = IndirectSheet.class;
        check("the class is public and final", face.getModifiers() == (Modifier.PUBLIC | Modifier.FINAL));
        check("the class extends nothing", face.getSuperclass() == Object.class && face.getInterfaces().length == 0);
        check("the class holds no other class", face.getDeclaredClasses().length == 0);
        Set<String> seen = membersSeen(face);
        check("the members that can be seen are " + FACE + ", not " + seen, FACE.equals(seen));
        checkFields(face);
        checkMethodNames(face);
        System.out.println(wrong == 0 ? "the face is as due" : wrong + " things are not as due");
        if (wrong != 0) {
            System.exit(1);
        }
    }

    private static Set<String> membersSeen(Class<?> face) {
        Set<String> seen = new TreeSet<>();
        for (Field field : face.getDeclaredFields()) {
            if (!Modifier.isPrivate(field.getModifiers())) {
                seen.add(shortened(field.toString()));
            }
        }
        for (Constructor<?> constructor : face.getDeclaredConstructors()) {
            if (!Modifier.isPrivate(constructor.getModifiers())) {
                seen.add(shortened(constructor.toString()));
            }
        }
        for (Method method : face.getDeclaredMethods()) {
            if (!Modifier.isPrivate(method.getModifiers())) {
                seen.add(shortened(method.toString()));
            }
        }
        return seen;
    }

    private static String shortened(String member) {
        return member.replace("IndirectSheet.", "");
    }

    private static void checkFields(Class<?> face) {
        Set<Class<?>> constantTypes = new HashSet<>(Arrays.asList(int.class, long.class));
        for (Field field : face.getDeclaredFields()) {
            Class<?> type = field.getType();
            if (Modifier.isStatic(field.getModifiers())) {
                boolean constant = Modifier.isFinal(field.getModifiers()) && constantTypes.contains(type);
                check(field.getName() + " is a constant of int or long", constant);
            } else {
                Class<?> member = type.isArray() ? type.getComponentType() : type;
                boolean whole = member.isPrimitive() && member != float.class && member != double.class;
                check(field.getName() + " is a whole number or an array of these", whole);
            }
        }
    }

    private static void checkMethodNames(Class<?> face) {
        Set<String> names = new HashSet<>();
        for (Method method : face.getDeclaredMethods()) {
            if (Modifier.isPublic(method.getModifiers())) {
                names.add(method.getName());
            }
        }
        for (Method method : face.getDeclaredMethods()) {
            boolean hidden = Modifier.isPrivate(method.getModifiers());
            check(method.getName() + " is not also a private method", !hidden || !names.contains(method.getName()));
        }
    }

    private static void check(String what, boolean holds) {
        if (!holds) {
            wrong++;
            System.out.println("does not hold: " + what);
        }
    }
}

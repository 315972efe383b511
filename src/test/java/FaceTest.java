import java.lang.reflect.Constructor;
import java.lang.reflect.Field;
import java.lang.reflect.Method;
import java.lang.reflect.Modifier;
import java.util.Arrays;
import java.util.Set;
import java.util.TreeSet;

/** The public face is that of the document, and nothing else of the class can be seen from outside. */
public final class FaceTest {
    private static final String[] FACE = {
        "int letters(int)", "int side(int,int,int,int)", "int body(int,int)", "int bound(int,int)",
        "int weight(int,int,int)", "int mirror(int)", "int turn()", "int copy(int,int)", "int drift(int)", "int undo()",
        "long told(int)", "int letter(int,int)", "int back(int,int,int)", "long space(int,int,int)",
        "long pair(int,int,int)", "int white(int,int)", "int set(int)", "int wipe()", "int place(int)", "int sign(int)",
        "int keep(int)", "int goBack(int)"};
    private static final String[] CONSTANTS = {"NONE", "UNKNOWN", "OUTSIDE", "NOT", "FULL"};

    private static String told(Method m) {
        StringBuilder text = new StringBuilder(m.getReturnType() + " " + m.getName() + "(");
        for (int i = 0; i < m.getParameterCount(); i++) {
            text.append(i > 0 ? "," : "").append(m.getParameterTypes()[i]);
        }
        return text.append(")").toString();
    }

    private static void methods() {
        Set<String> seen = new TreeSet<>();
        Set<String> names = new TreeSet<>();
        for (Method m : EvenWhite.class.getDeclaredMethods()) {
            if (!Modifier.isPrivate(m.getModifiers())) {
                seen.add(told(m));
                names.add(m.getName());
                if (!Modifier.isPublic(m.getModifiers()) || Modifier.isStatic(m.getModifiers())) {
                    Due.fault(m + " is not public or is static");
                }
            }
        }
        if (!seen.equals(new TreeSet<>(Arrays.asList(FACE)))) {
            Due.fault("the methods are " + seen);
        }
        noPrivateMethodBears(names, EvenWhite.class);
        for (Class<?> inside : EvenWhite.class.getDeclaredClasses()) {
            noPrivateMethodBears(names, inside);
        }
    }

    private static void noPrivateMethodBears(Set<String> names, Class<?> type) {
        for (Method m : type.getDeclaredMethods()) {
            if (Modifier.isPrivate(m.getModifiers()) && names.contains(m.getName())) {
                Due.fault(m + " bears the name of a public method");
            }
        }
    }

    private static void fields() throws ReflectiveOperationException {
        Set<String> seen = new TreeSet<>();
        for (Field f : EvenWhite.class.getDeclaredFields()) {
            int is = f.getModifiers();
            if (!Modifier.isPrivate(is)) {
                seen.add(f.getName());
                if (!Modifier.isPublic(is) || !Modifier.isStatic(is) || f.getType() != int.class) {
                    Due.fault(f + " is not of the face");
                }
            }
            if (Modifier.isStatic(is) && !Modifier.isFinal(is)) {
                Due.fault(f + " is static and not final");
            }
        }
        if (!seen.equals(new TreeSet<>(Arrays.asList(CONSTANTS)))) {
            Due.fault("the constants are " + seen);
        }
        int[] values = {-1, -1000000001, -1000000002, -1000000003, -1000000004};
        for (int i = 0; i < values.length; i++) {
            Due.due(CONSTANTS[i], EvenWhite.class.getField(CONSTANTS[i]).getInt(null), values[i]);
        }
    }

    private static void classes() {
        int is = EvenWhite.class.getModifiers();
        if (!Modifier.isPublic(is) || !Modifier.isFinal(is)) {
            Due.fault("the class is not public and final");
        }
        Constructor<?>[] makers = EvenWhite.class.getDeclaredConstructors();
        if (makers.length != 1 || !Modifier.isPublic(makers[0].getModifiers()) || makers[0].getParameterCount() != 0) {
            Due.fault("the constructors are " + Arrays.toString(makers));
        }
        for (Class<?> inside : EvenWhite.class.getDeclaredClasses()) {
            if (!Modifier.isStatic(inside.getModifiers()) || Modifier.isPublic(inside.getModifiers())
                    || Modifier.isProtected(inside.getModifiers())) {
                Due.fault(inside + " is not a hidden static class");
            }
        }
    }

    public static void main(String[] args) throws Exception {
        methods();
        fields();
        classes();
        Due.end();
    }
}

import java.lang.reflect.Constructor;
import java.lang.reflect.Field;
import java.lang.reflect.Method;
import java.lang.reflect.Modifier;
import java.util.ArrayList;
import java.util.Collections;
import java.util.HashSet;
import java.util.List;
import java.util.Set;

/** The public face, and what of LANGUAGE.md can be seen by a look at the class and the classes inside it. */
public final class FaceTest {
    private static final String[] FACE = {
        "int put(int) IllegalArgumentException IllegalStateException",
        "int change(int, int) IndexOutOfBoundsException IllegalArgumentException",
        "int cut(int) IllegalArgumentException",
        "int grow(int, int, int) IllegalArgumentException IllegalStateException",
        "int keep(int, int) IllegalArgumentException IllegalStateException",
        "int drop(int) IndexOutOfBoundsException",
        "int find(int, int) IllegalArgumentException IllegalStateException",
        "int mend()",
        "int set(int, int) IndexOutOfBoundsException IllegalArgumentException",
        "int append(int) IllegalArgumentException IllegalStateException",
        "int clearBuffer()",
        "int firstError()",
        "int putAll() IllegalArgumentException IllegalStateException",
        "int undo() IllegalStateException",
        "int sign(int) IllegalArgumentException",
        "int period(int, int) IndexOutOfBoundsException IllegalArgumentException",
        "int remainder(int, int, int) IndexOutOfBoundsException IllegalArgumentException",
        "int told(int, int) IndexOutOfBoundsException IllegalArgumentException",
        "int count(int) IllegalArgumentException",
        "int setting(int) IndexOutOfBoundsException",
        "int explains(int, int) IllegalArgumentException",
        "int best(int, int) IllegalArgumentException",
        "int bestPhase(int) IllegalArgumentException",
        "int bestWindow(int, int) IllegalArgumentException",
        "double share()",
        "long digest()",
    };

    public static void main(String[] args) {
        methods();
        fieldsAndConstructors();
        classesInside();
        Checks.finish("FaceTest");
    }

    private static void methods() {
        List<String> got = new ArrayList<>();
        for (Method method : HiddenPeriods.class.getDeclaredMethods()) {
            if (Modifier.isPublic(method.getModifiers())) {
                got.add(told(method));
            } else {
                Checks.holds("private: " + method, Modifier.isPrivate(method.getModifiers()) || method.isSynthetic());
            }
        }
        List<String> due = new ArrayList<>(List.of(FACE));
        Collections.sort(got);
        Collections.sort(due);
        Checks.same("the public methods", String.join("\n", got), String.join("\n", due));
    }

    private static String told(Method method) {
        StringBuilder line = new StringBuilder(method.getReturnType().getSimpleName() + " " + method.getName() + "(");
        for (int i = 0; i < method.getParameterCount(); i++) {
            line.append(i > 0 ? ", " : "").append(method.getParameterTypes()[i].getSimpleName());
        }
        line.append(")");
        for (Class<?> thrown : method.getExceptionTypes()) {
            line.append(" ").append(thrown.getSimpleName());
        }
        return line.toString();
    }

    private static void fieldsAndConstructors() {
        for (Field field : HiddenPeriods.class.getDeclaredFields()) {
            boolean none = field.getName().equals("NONE");
            int modifiers = field.getModifiers();
            Checks.holds("private, or NONE: " + field, none ? Modifier.isPublic(modifiers) : Modifier.isPrivate(modifiers));
            Checks.holds("final, if static: " + field, !Modifier.isStatic(modifiers) || Modifier.isFinal(modifiers));
        }
        Constructor<?>[] constructors = HiddenPeriods.class.getDeclaredConstructors();
        Checks.same("constructors", constructors.length, 1);
        Checks.same("arguments of the constructor", constructors[0].getParameterCount(), 0);
        Checks.holds("the class is public and final",
            (HiddenPeriods.class.getModifiers() & (Modifier.PUBLIC | Modifier.FINAL)) == (Modifier.PUBLIC | Modifier.FINAL));
    }

    private static void classesInside() {
        Set<String> names = new HashSet<>();
        for (String line : FACE) {
            names.add(line.substring(line.indexOf(' ') + 1, line.indexOf('(')));
        }
        for (Class<?> inside : HiddenPeriods.class.getDeclaredClasses()) {
            int modifiers = inside.getModifiers();
            Checks.holds("static and not public: " + inside, Modifier.isStatic(modifiers) && !Modifier.isPublic(modifiers));
            for (Method method : inside.getDeclaredMethods()) {
                Checks.holds("no name of the face: " + method, !names.contains(method.getName()));
            }
        }
    }
}

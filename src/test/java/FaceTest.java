import java.lang.reflect.Constructor;
import java.lang.reflect.Field;
import java.lang.reflect.Method;
import java.lang.reflect.Modifier;
import java.util.Set;
import java.util.TreeSet;

/** The class shows the face of the document and no more, and holds what LANGUAGE.md lets it hold. */
public final class FaceTest {
    private static final Set<String> FACE = Set.of(
        "public static final int FREE",
        "public static final int REQUIRED",
        "public static final int BARRED",
        "public static final int NONE",
        "public TourDesk(int,int)",
        "public boolean TourDesk.setLength(int,int,int)",
        "public boolean TourDesk.setRule(int,int,int)",
        "public int TourDesk.shift(int,int)",
        "public int TourDesk.length(int,int)",
        "public int TourDesk.rule(int,int)",
        "public int TourDesk.best()",
        "public int TourDesk.cityAt(int)",
        "public int TourDesk.bestWith(int,int)",
        "public int TourDesk.bestWithout(int,int)",
        "public int TourDesk.neighbours(int)",
        "public int TourDesk.limit(int,int)");

    private static int wrong = 0;

    private static void fault(String text) {
        wrong++;
        System.out.println(text);
    }

    private static void checkField(Field field, Set<String> shown) {
        int modifiers = field.getModifiers();
        if (!Modifier.isPrivate(modifiers)) {
            shown.add(Modifier.toString(modifiers) + " " + field.getType() + " " + field.getName());
        }
        Class<?> type = field.getType();
        if (Modifier.isStatic(modifiers) && !(Modifier.isFinal(modifiers) && (type == int.class || type == long.class))) {
            fault("a static field is no constant of int or long: " + field);
        }
        Class<?> held = type.isArray() ? type.getComponentType() : type;
        if (!held.isPrimitive() || held == float.class || held == double.class) {
            fault("a field is of a type that is ruled out: " + field);
        }
    }

    public static void main(String[] args) {
        Class<?> desk = TourDesk.class;
        Set<String> shown = new TreeSet<>();
        Set<String> publicNames = new TreeSet<>();
        for (Field field : desk.getDeclaredFields()) {
            checkField(field, shown);
        }
        for (Constructor<?> constructor : desk.getDeclaredConstructors()) {
            shown.add(constructor.toString());
        }
        for (Method method : desk.getDeclaredMethods()) {
            if (!Modifier.isPrivate(method.getModifiers())) {
                shown.add(method.toString());
                publicNames.add(method.getName());
            }
        }
        for (Method method : desk.getDeclaredMethods()) {
            if (Modifier.isPrivate(method.getModifiers()) && publicNames.contains(method.getName())) {
                fault("a private method bears the name of a public one: " + method);
            }
            if (method.getReturnType().isArray() || method.getParameterCount() > 7) {
                fault("a method answers an array or takes too much: " + method);
            }
        }
        if (!shown.equals(new TreeSet<>(FACE))) {
            fault("the face is " + shown + ", due is " + new TreeSet<>(FACE));
        }
        if (desk.getModifiers() != (Modifier.PUBLIC | Modifier.FINAL) || desk.getSuperclass() != Object.class
            || desk.getInterfaces().length != 0 || desk.getDeclaredClasses().length != 0 || !desk.getPackageName().isEmpty()) {
            fault("the class is not one public final class without a package");
        }
        System.out.println(wrong == 0 ? "the face is as due" : wrong + " faults of the face");
        if (wrong != 0) {
            System.exit(1);
        }
    }
}

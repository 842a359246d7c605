import java.io.IOException;
import java.lang.reflect.Method;
import java.lang.reflect.Modifier;
import java.nio.file.Files;
import java.nio.file.Path;
import java.util.Set;
import java.util.TreeSet;
import java.util.regex.Matcher;
import java.util.regex.Pattern;

/** The example in README.md is carried out line by line, and each answer that it tells is the one that is given. */
public final class ReadmeTest {
    private static final Pattern MADE = Pattern.compile("TourDesk desk = new TourDesk\\((\\d+), (\\d+)\\);.*");
    private static final Pattern CALL = Pattern.compile("desk\\.(\\w+)\\((.*)\\); +// (-?\\w+)(:.*)?");

    private static int wrong = 0;

    private static void fault(String text) {
        wrong++;
        System.out.println("README.md: " + text);
    }

    private static Set<String> publicMethods() {
        Set<String> names = new TreeSet<>();
        for (Method method : TourDesk.class.getDeclaredMethods()) {
            if (Modifier.isPublic(method.getModifiers())) {
                names.add(method.getName());
            }
        }
        return names;
    }

    /** A number, a boolean, or a constant of the class by its name. */
    private static Object valueOf(String text) throws ReflectiveOperationException {
        if (text.equals("true") || text.equals("false")) {
            return Boolean.valueOf(text);
        }
        if (text.matches("-?\\d+")) {
            return Integer.valueOf(text);
        }
        return TourDesk.class.getField(text.replace("TourDesk.", "")).get(null);
    }

    private static Object[] argumentsOf(String text) throws ReflectiveOperationException {
        if (text.isEmpty()) {
            return new Object[0];
        }
        String[] parts = text.split(", ");
        Object[] values = new Object[parts.length];
        for (int i = 0; i < parts.length; i++) {
            values[i] = valueOf(parts[i]);
        }
        return values;
    }

    private static void carryOut(Matcher line, TourDesk desk) throws ReflectiveOperationException {
        Object[] arguments = argumentsOf(line.group(2));
        Class<?>[] types = new Class<?>[arguments.length];
        java.util.Arrays.fill(types, int.class);
        Object got = TourDesk.class.getMethod(line.group(1), types).invoke(desk, arguments);
        if (!got.equals(valueOf(line.group(3)))) {
            fault(line.group() + " but the answer is " + got);
        }
    }

    private static void runExample(String example) throws ReflectiveOperationException {
        Set<String> notShown = publicMethods();
        TourDesk desk = null;
        for (String text : example.split("\n")) {
            Matcher made = MADE.matcher(text);
            Matcher call = CALL.matcher(text);
            if (made.matches()) {
                desk = new TourDesk(Integer.parseInt(made.group(1)), Integer.parseInt(made.group(2)));
            } else if (call.matches() && desk != null) {
                carryOut(call, desk);
                notShown.remove(call.group(1));
            } else {
                fault("this line of the example tells no answer: " + text);
            }
        }
        if (!notShown.isEmpty()) {
            fault("the example does not show " + notShown);
        }
    }

    public static void main(String[] args) throws IOException, ReflectiveOperationException {
        String readme = Files.readString(Path.of("README.md"));
        Matcher example = Pattern.compile("```java\n(.*?)\n```", Pattern.DOTALL).matcher(readme);
        if (example.find()) {
            runExample(example.group(1));
        } else {
            fault("there is no example");
        }
        for (String name : publicMethods()) {
            if (!readme.contains("\n- `" + name + "(")) {
                fault("the list of calls does not have " + name);
            }
        }
        String told = wrong == 0 ? "the example tells the answers that are given" : wrong + " faults of README.md";
        System.out.println(told);
        if (wrong != 0) {
            System.exit(1);
        }
    }
}

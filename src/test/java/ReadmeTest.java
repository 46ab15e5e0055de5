import java.io.IOException;
import java.lang.reflect.Field;
import java.lang.reflect.Method;
import java.lang.reflect.Modifier;
import java.nio.file.Files;
import java.nio.file.Path;
import java.util.ArrayList;
import java.util.Arrays;
import java.util.List;
import java.util.regex.Matcher;
import java.util.regex.Pattern;

/** README.md tells of every member of the face, and its example what the class answers. */
public final class ReadmeTest {
    private static final Path README = Path.of("README.md");
    private static final Pattern MADE =
        Pattern.compile("ColouredHeap heap = new ColouredHeap\\((-?\\d+)\\);");
    private static final Pattern CALL =
        Pattern.compile("heap\\.(\\w+)\\(([-\\d, ]*)\\); +// (BAD|EMPTY|FULL|true|false|-?\\d+): .+");

    private static int wrong = 0;

    private static void tell(String what) {
        wrong++;
        System.out.println(what);
    }

    public static void main(String[] args) throws IOException, ReflectiveOperationException {
        List<String> lines = Files.readAllLines(README);
        everyMemberIsNamed(String.join("\n", lines));
        runExample(example(lines));
        System.out.println(wrong == 0 ? "README.md is as due" : wrong + " faults of README.md");
        if (wrong != 0) {
            System.exit(1);
        }
    }

    private static void everyMemberIsNamed(String text) throws IllegalAccessException {
        for (Method method : ColouredHeap.class.getDeclaredMethods()) {
            if (Modifier.isPublic(method.getModifiers()) && !text.contains("`" + method.getName() + "(")) {
                tell("README.md does not name " + method.getName());
            }
        }
        for (Field field : ColouredHeap.class.getDeclaredFields()) {
            if (Modifier.isPublic(field.getModifiers())) {
                String told = "`" + field.getName() + "` (" + field.getInt(null) + ")";
                if (!text.contains(told)) {
                    tell("README.md does not have " + told);
                }
            }
        }
    }

    /** The lines of the only block of Java. */
    private static List<String> example(List<String> lines) {
        int first = lines.indexOf("```java") + 1;
        List<String> rest = lines.subList(first, lines.size());
        if (first == 0 || !rest.contains("```")) {
            tell("README.md has no example");
            return new ArrayList<>();
        }
        if (rest.contains("```java")) {
            tell("README.md has a second example, which is not looked at");
        }
        return rest.subList(0, rest.indexOf("```"));
    }

    private static void runExample(List<String> example) throws ReflectiveOperationException {
        ColouredHeap heap = null;
        int calls = 0;
        for (String line : example) {
            Matcher made = MADE.matcher(line);
            Matcher call = CALL.matcher(line);
            if (made.matches()) {
                heap = new ColouredHeap(Integer.parseInt(made.group(1)));
            } else if (heap != null && call.matches()) {
                calls++;
                runLine(heap, call);
            } else {
                tell("this line of the example is not understood: " + line);
            }
        }
        if (calls == 0) {
            tell("the example has no call");
        }
    }

    private static void runLine(ColouredHeap heap, Matcher call) throws ReflectiveOperationException {
        String got = String.valueOf(answer(heap, call.group(1), numbers(call.group(2))));
        if (!got.equals(due(call.group(3)))) {
            tell(call.group() + " -- it answered " + got);
        }
    }

    private static Object[] numbers(String text) {
        List<Object> numbers = new ArrayList<>();
        for (String number : text.split(", ")) {
            if (!number.isEmpty()) {
                numbers.add(Integer.valueOf(number));
            }
        }
        return numbers.toArray();
    }

    private static Object answer(ColouredHeap heap, String name, Object[] numbers)
            throws ReflectiveOperationException {
        Class<?>[] types = new Class<?>[numbers.length];
        Arrays.fill(types, int.class);
        return ColouredHeap.class.getMethod(name, types).invoke(heap, numbers);
    }

    private static String due(String told) throws ReflectiveOperationException {
        boolean constant = told.equals("BAD") || told.equals("EMPTY") || told.equals("FULL");
        return constant ? String.valueOf(ColouredHeap.class.getField(told).getInt(null)) : told;
    }
}

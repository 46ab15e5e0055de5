import java.lang.reflect.Constructor;
import java.lang.reflect.Field;
import java.lang.reflect.Method;
import java.lang.reflect.Modifier;
import java.util.Arrays;
import java.util.TreeSet;

/** The class has the document's public face, and no other member that is not private. */
public final class FaceTest {
    private static final String[] FACE = {
        "public static final int BAD", "public static final int EMPTY", "public static final int FULL",
        "public ColouredHeap(int)",
        "public int make(int, int, int)", "public int load(int, int, int)", "public int store(int, int, int)",
        "public boolean copy(int, int)", "public boolean drop(int)", "public int value(int)",
        "public boolean set(int, int)", "public int fields(int)", "public int place(int)",
        "public int colour(int, int)", "public int behind(int, int)", "public int collect(int)",
        "public int phase()", "public int stack()", "public int page(int, int)", "public int healed()",
        "public int moved()", "public int cycles()"};

    private static int wrong = 0;

    private static void due(String what, Object got, Object want) {
        if (!got.equals(want)) {
            wrong++;
            System.out.println(what + ": " + got + ", due is " + want);
        }
    }

    public static void main(String[] args) {
        Class<?> heap = ColouredHeap.class;
        due("the class", Modifier.toString(heap.getModifiers()), "public final");
        due("the package", heap.getPackageName(), "");
        due("the face", seenFromOutside(heap), new TreeSet<>(Arrays.asList(FACE)));
        for (Field field : heap.getDeclaredFields()) {
            if (Modifier.isStatic(field.getModifiers())) {
                due("static " + field.getName() + " is final", Modifier.isFinal(field.getModifiers()), true);
            }
        }
        privateNamesAreNoPublicOnes(heap);
        System.out.println(wrong == 0 ? "the face is as due" : wrong + " faults of the face");
        if (wrong != 0) {
            System.exit(1);
        }
    }

    private static TreeSet<String> seenFromOutside(Class<?> heap) {
        TreeSet<String> seen = new TreeSet<>();
        for (Field field : heap.getDeclaredFields()) {
            if (!Modifier.isPrivate(field.getModifiers())) {
                seen.add(Modifier.toString(field.getModifiers()) + " "
                    + field.getType().getSimpleName() + " " + field.getName());
            }
        }
        for (Constructor<?> constructor : heap.getDeclaredConstructors()) {
            if (!Modifier.isPrivate(constructor.getModifiers())) {
                seen.add(constructor.toString());
            }
        }
        for (Method method : heap.getDeclaredMethods()) {
            if (!Modifier.isPrivate(method.getModifiers())) {
                seen.add(Modifier.toString(method.getModifiers()) + " "
                    + method.getReturnType().getSimpleName() + " " + method.getName()
                    + parameters(method));
            }
        }
        return seen;
    }

    private static String parameters(Method method) {
        String text = Arrays.toString(method.getParameterTypes());
        return "(" + text.substring(1, text.length() - 1) + ")";
    }

    private static void privateNamesAreNoPublicOnes(Class<?> heap) {
        TreeSet<String> publicNames = new TreeSet<>();
        for (Method method : heap.getMethods()) {
            publicNames.add(method.getName());
        }
        for (Method method : heap.getDeclaredMethods()) {
            if (Modifier.isPrivate(method.getModifiers())) {
                due("private " + method.getName() + " has a public one's name",
                    publicNames.contains(method.getName()), false);
            }
        }
    }
}

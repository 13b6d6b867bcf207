import java.lang.reflect.Constructor;
import java.lang.reflect.Field;
import java.lang.reflect.Method;
import java.lang.reflect.Modifier;
import java.util.Arrays;
import java.util.Set;
import java.util.TreeSet;

/** The public face: the constants, the constructor and the methods of the document, no other. */
public final class FaceTest {
    private static final Set<String> FACE = new TreeSet<>(Set.of(
        "public static final int BAD_ARG",
        "public static final int FULL",
        "public static final int EMPTY",
        "public ThreadHeap[int]",
        "public int make[int, int, int]",
        "public int copy[int, int, int]",
        "public int drop[int, int]",
        "public int load[int, int, int, int]",
        "public int store[int, int, int, int]",
        "public int put[int, int, int]",
        "public int get[int, int, int]",
        "public int swap[int, int, int, int]",
        "public int setNumber[int, int, int]",
        "public int number[int, int]",
        "public int serial[int, int]",
        "public int serialIn[int, int, int]",
        "public int serialOf[int]",
        "public int made[]",
        "public int live[]",
        "public void rest[int]",
        "public int pause[int]"));

    public static void main(String[] args) {
        Due.answer("BAD_ARG", ThreadHeap.BAD_ARG, -1);
        Due.answer("FULL", ThreadHeap.FULL, -2);
        Due.answer("EMPTY", ThreadHeap.EMPTY, -3);
        Set<String> missing = new TreeSet<>(FACE);
        missing.removeAll(found());
        Due.answer("how many members are missing " + missing, missing.size(), 0);
        Set<String> extra = found();
        extra.removeAll(FACE);
        Due.answer("how many members are too many " + extra, extra.size(), 0);
        Due.answer("modifiers of the class", ThreadHeap.class.getModifiers(),
            Modifier.PUBLIC | Modifier.FINAL);
        Due.end();
    }

    private static Set<String> found() {
        Set<String> found = new TreeSet<>();
        for (Field field : ThreadHeap.class.getDeclaredFields()) {
            add(found, field.getModifiers(), field.getType().getTypeName() + " " + field.getName());
        }
        for (Constructor<?> maker : ThreadHeap.class.getDeclaredConstructors()) {
            add(found, maker.getModifiers(), maker.getName() + types(maker.getParameterTypes()));
        }
        for (Method method : ThreadHeap.class.getDeclaredMethods()) {
            add(found, method.getModifiers(), method.getReturnType().getTypeName() + " "
                + method.getName() + types(method.getParameterTypes()));
        }
        return found;
    }

    private static void add(Set<String> found, int modifiers, String member) {
        if (!Modifier.isPrivate(modifiers)) {
            found.add(Modifier.toString(modifiers) + " " + member);
        }
    }

    private static String types(Class<?>[] parameters) {
        return Arrays.toString(Arrays.stream(parameters).map(Class::getTypeName).toArray());
    }
}

import java.util.Arrays;
import java.util.List;
import java.util.function.Supplier;

/** Every call of the document with the kinds of its arguments, and choices of arguments for it. */
final class Calls {
    interface Action {
        int on(ThreadHeap heap, int[] arguments);
    }

    /**
     * The kinds have a letter for each argument: t a thread, r a register, f a field, g a global,
     * n any number.
     */
    record Call(String name, String kinds, Action action) {
        /** What the call answers if an argument is out of its range. */
        int wrongArgument() {
            return name.equals("number") ? 0 : ThreadHeap.BAD_ARG;
        }
    }

    static final List<Call> ALL = List.of(
        new Call("make", "trn", (heap, a) -> heap.make(a[0], a[1], a[2])),
        new Call("copy", "trr", (heap, a) -> heap.copy(a[0], a[1], a[2])),
        new Call("drop", "tr", (heap, a) -> heap.drop(a[0], a[1])),
        new Call("load", "trrf", (heap, a) -> heap.load(a[0], a[1], a[2], a[3])),
        new Call("store", "trfr", (heap, a) -> heap.store(a[0], a[1], a[2], a[3])),
        new Call("put", "tgr", (heap, a) -> heap.put(a[0], a[1], a[2])),
        new Call("get", "trg", (heap, a) -> heap.get(a[0], a[1], a[2])),
        new Call("swap", "trtr", (heap, a) -> heap.swap(a[0], a[1], a[2], a[3])),
        new Call("setNumber", "trn", (heap, a) -> heap.setNumber(a[0], a[1], a[2])),
        new Call("number", "tr", (heap, a) -> heap.number(a[0], a[1])),
        new Call("serial", "tr", (heap, a) -> heap.serial(a[0], a[1])),
        new Call("serialIn", "trf", (heap, a) -> heap.serialIn(a[0], a[1], a[2])),
        new Call("serialOf", "g", (heap, a) -> heap.serialOf(a[0])),
        new Call("made", "", (heap, a) -> heap.made()),
        new Call("live", "", (heap, a) -> heap.live()),
        new Call("rest", "n", (heap, a) -> rest(heap, a[0])),
        new Call("pause", "t", (heap, a) -> heap.pause(a[0])));

    private Calls() {
    }

    private static int rest(ThreadHeap heap, int k) {
        heap.rest(k);
        return 0;
    }

    static Call named(String name) {
        return ALL.stream().filter(call -> call.name().equals(name)).findFirst().orElseThrow();
    }

    /**
     * "t not 0 to 2, a register not 0 to 3, a field or a global not 0 or 1 answers BAD_ARG (the
     * call number answers 0 instead)": every choice with a wrong argument is refused and changes
     * nothing, and no choice of right arguments is refused for them.
     */
    static void testsItsArguments(String name) {
        Call call = named(name);
        for (int choice = 0; choice < choices(call.kinds()); choice++) {
            int[] arguments = chosen(call.kinds(), choice);
            for (Supplier<ThreadHeap> start : Heaps.STARTS) {
                if (allRight(call.kinds(), arguments)) {
                    isNotBadArg(call, start.get(), arguments);
                } else {
                    isRefused(call, start, arguments);
                }
            }
        }
    }

    private static void isNotBadArg(Call call, ThreadHeap heap, int[] arguments) {
        if (call.action().on(heap, arguments) == ThreadHeap.BAD_ARG) {
            Due.wrong(told(call, arguments) + " answered BAD_ARG, but all arguments are right");
        }
    }

    private static void isRefused(Call call, Supplier<ThreadHeap> start, int[] arguments) {
        Due.changesNothing(start, told(call, arguments),
            heap -> call.action().on(heap, arguments), call.wrongArgument());
    }

    static String told(Call call, int[] arguments) {
        return call.name() + Arrays.toString(arguments);
    }

    static int choices(String kinds) {
        int choices = 1;
        for (int i = 0; i < kinds.length(); i++) {
            choices *= values(kinds.charAt(i)).length;
        }
        return choices;
    }

    static int[] chosen(String kinds, int choice) {
        int[] arguments = new int[kinds.length()];
        int left = choice;
        for (int i = 0; i < arguments.length; i++) {
            int[] values = values(kinds.charAt(i));
            arguments[i] = values[left % values.length];
            left /= values.length;
        }
        return arguments;
    }

    private static boolean allRight(String kinds, int[] arguments) {
        for (int i = 0; i < arguments.length; i++) {
            char kind = kinds.charAt(i);
            if (kind != 'n' && (arguments[i] < 0 || arguments[i] >= end(kind))) {
                return false;
            }
        }
        return true;
    }

    private static int end(char kind) {
        return switch (kind) {
            case 't' -> 3;
            case 'r' -> 4;
            default -> 2;
        };
    }

    // 1 << 30 is there because four times it is 0 again.
    private static int[] values(char kind) {
        return switch (kind) {
            case 't' -> new int[] {0, 1, 2, -1, 3, 1 << 30, Integer.MIN_VALUE, Integer.MAX_VALUE};
            case 'r' -> new int[] {0, 1, 2, 3, -1, 4, 1 << 30, Integer.MIN_VALUE, Integer.MAX_VALUE};
            case 'f', 'g' -> new int[] {0, 1, -1, 2, 1 << 30, Integer.MIN_VALUE, Integer.MAX_VALUE};
            default -> new int[] {7, 0, -1, Integer.MIN_VALUE, Integer.MAX_VALUE};
        };
    }
}

import java.util.Arrays;
import java.util.List;
import java.util.function.Supplier;
import java.util.function.ToIntFunction;

/** What the tests share: comparing answers, heaps to start from, and wrong arguments. */
final class Due {
    /** A call with its arguments, in the order of the document. */
    interface Call {
        int on(ThreadHeap heap, int[] arguments);
    }

    private static final List<Supplier<ThreadHeap>> STARTS =
        List.of(() -> new ThreadHeap(4), Due::busyHeap, Due::fullHeap);

    private static int wrong = 0;

    private Due() {
    }

    static void answer(String call, int got, int want) {
        if (got != want) {
            wrong++;
            System.out.println(call + " answered " + got + ", due is " + want);
        }
    }

    static void end() {
        System.out.println(wrong == 0 ? "all answers are as due" : wrong + " answers are not as due");
        if (wrong != 0) {
            System.exit(1);
        }
    }

    /**
     * Room for 4, of which 3 are live: object 1 (number 10) in register 0 of thread 0 and in
     * global 0, object 2 (number 20) in register 1 of thread 0, object 3 (number 30) in
     * register 2 of thread 1 and register 3 of thread 2. Field 0 of 1 holds 2, field 1 of 2
     * holds 1, field 0 of 3 holds 3. Object 4 is not live any more.
     */
    static ThreadHeap busyHeap() {
        ThreadHeap heap = new ThreadHeap(4);
        heap.make(0, 0, 10);
        heap.make(0, 1, 20);
        heap.store(0, 0, 0, 1);
        heap.store(0, 1, 1, 0);
        heap.put(0, 0, 0);
        heap.make(1, 2, 30);
        heap.store(1, 2, 0, 2);
        heap.put(1, 1, 2);
        heap.get(2, 3, 1);
        heap.put(1, 1, 0);
        heap.make(2, 0, 40);
        heap.drop(2, 0);
        return heap;
    }

    /** Room for 4, all live: objects 1 to 4 (numbers 1 to 4) in the registers of thread 0. */
    static ThreadHeap fullHeap() {
        ThreadHeap heap = new ThreadHeap(4);
        for (int r = 0; r < 4; r++) {
            heap.make(0, r, r + 1);
        }
        return heap;
    }

    /** All that can be seen of a heap without changing it, in 52 calls. */
    static int[] view(ThreadHeap heap) {
        int[] seen = new int[52];
        int next = 0;
        for (int t = 0; t < 3; t++) {
            for (int r = 0; r < 4; r++) {
                seen[next++] = heap.serial(t, r);
                seen[next++] = heap.number(t, r);
                seen[next++] = heap.serialIn(t, r, 0);
                seen[next++] = heap.serialIn(t, r, 1);
            }
        }
        seen[next++] = heap.serialOf(0);
        seen[next++] = heap.serialOf(1);
        seen[next++] = heap.made();
        seen[next] = heap.live();
        return seen;
    }

    static void same(String what, int[] got, int[] want) {
        if (!Arrays.equals(got, want)) {
            wrong++;
            System.out.println(what + ": the heap shows " + Arrays.toString(got)
                + ", due is " + Arrays.toString(want));
        }
    }

    /** The call answers the code and changes nothing. */
    static void refused(ThreadHeap heap, String name, ToIntFunction<ThreadHeap> call, int code) {
        int[] before = view(heap);
        answer(name, call.applyAsInt(heap), code);
        same("after " + name, view(heap), before);
    }

    /**
     * Every choice of right and wrong arguments with at least one wrong is refused with the code.
     * The kinds have a letter for each argument: t a thread, r a register, f a field or a
     * global, n any number.
     */
    static void wrongArguments(String name, String kinds, Call call, int code) {
        int[] arguments = new int[kinds.length()];
        int choices = 1;
        for (int i = 0; i < kinds.length(); i++) {
            choices *= values(kinds.charAt(i)).length;
        }
        for (int choice = 0; choice < choices; choice++) {
            if (choose(kinds, choice, arguments)) {
                String told = name + Arrays.toString(arguments);
                for (Supplier<ThreadHeap> start : STARTS) {
                    refused(start.get(), told, heap -> call.on(heap, arguments), code);
                }
            }
        }
    }

    private static boolean choose(String kinds, int choice, int[] arguments) {
        boolean anyWrong = false;
        int rest = choice;
        for (int i = 0; i < arguments.length; i++) {
            int[] values = values(kinds.charAt(i));
            arguments[i] = values[rest % values.length];
            rest /= values.length;
            anyWrong |= arguments[i] < 0 || arguments[i] >= end(kinds.charAt(i));
        }
        return anyWrong;
    }

    private static int end(char kind) {
        return switch (kind) {
            case 't' -> 3;
            case 'r' -> 4;
            case 'f' -> 2;
            default -> Integer.MAX_VALUE;
        };
    }

    // 1 << 30 is there because four times it is 0 again.
    private static int[] values(char kind) {
        return switch (kind) {
            case 't' -> new int[] {0, 1, 2, -1, 3, 1 << 30, Integer.MIN_VALUE, Integer.MAX_VALUE};
            case 'r' -> new int[] {0, 1, 2, 3, -1, 4, 1 << 30, Integer.MIN_VALUE, Integer.MAX_VALUE};
            case 'f' -> new int[] {0, 1, -1, 2, 1 << 30, Integer.MIN_VALUE, Integer.MAX_VALUE};
            default -> new int[] {7};
        };
    }
}

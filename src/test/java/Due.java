import java.util.Arrays;
import java.util.function.Supplier;
import java.util.function.ToIntFunction;

/** Compares answers with those that are due, and ends a test. */
final class Due {
    private static int wrong = 0;

    private Due() {
    }

    static void answer(String call, int got, int want) {
        if (got != want) {
            wrong(call + " answered " + got + ", due is " + want);
        }
    }

    static void wrong(String told) {
        wrong++;
        System.out.println(told);
    }

    static void same(String what, int[] got, int[] want) {
        if (!Arrays.equals(got, want)) {
            wrong(what + ": the heap shows " + Arrays.toString(got)
                + ", due is " + Arrays.toString(want));
        }
    }

    /** The call answers what is due and changes nothing that any call answers, now or later. */
    static void changesNothing(Supplier<ThreadHeap> start, String call,
            ToIntFunction<ThreadHeap> action, int want) {
        ThreadHeap heap = start.get();
        answer(call, action.applyAsInt(heap), want);
        same("after " + call, Heaps.answersFromNowOn(heap), Heaps.answersFromNowOn(start.get()));
    }

    static void end() {
        System.out.println(wrong == 0 ? "all answers are as due" : wrong + " answers are not as due");
        if (wrong != 0) {
            System.exit(1);
        }
    }
}

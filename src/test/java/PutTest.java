/** Promise 7: put. */
public final class PutTest {
    public static void main(String[] args) {
        fillsThatGlobalAlone();
        replacesWhatTheGlobalHeld();
        emptiesTheGlobalForAnEmptyRegister();
        keepsTheObjectLive();
        Due.wrongArguments("put", "tfr", (heap, a) -> heap.put(a[0], a[1], a[2]), ThreadHeap.BAD_ARG);
        Due.end();
    }

    private static void fillsThatGlobalAlone() {
        ThreadHeap heap = Due.fullHeap();
        Due.answer("put(0, 1, 2)", heap.put(0, 1, 2), 0);
        Due.answer("serialOf(1)", heap.serialOf(1), 3);
        Due.answer("serialOf(0)", heap.serialOf(0), 0);
        Due.answer("put(0, 0, 3)", heap.put(0, 0, 3), 0);
        Due.answer("serialOf(0)", heap.serialOf(0), 4);
        Due.answer("serialOf(1)", heap.serialOf(1), 3);
        Due.answer("the register still holds", heap.serial(0, 2), 3);
    }

    private static void replacesWhatTheGlobalHeld() {
        ThreadHeap heap = Due.busyHeap();
        Due.answer("put(2, 0, 3)", heap.put(2, 0, 3), 0);
        Due.answer("serialOf(0)", heap.serialOf(0), 3);
    }

    private static void emptiesTheGlobalForAnEmptyRegister() {
        ThreadHeap heap = Due.busyHeap();
        Due.answer("put(1, 0, 0)", heap.put(1, 0, 0), 0);
        Due.answer("serialOf(0)", heap.serialOf(0), 0);
    }

    private static void keepsTheObjectLive() {
        ThreadHeap heap = Due.fullHeap();
        heap.put(0, 0, 1);
        heap.drop(0, 1);
        Due.answer("live", heap.live(), 4);
        Due.answer("make", heap.make(0, 1, 0), ThreadHeap.FULL);
        heap.put(0, 0, 1);
        Due.answer("live", heap.live(), 3);
        Due.answer("make", heap.make(0, 1, 0), 5);
    }
}

/** Promise 7: put. */
public final class PutTest {
    public static void main(String[] args) {
        fillsThatGlobalAlone();
        replacesWhatTheGlobalHeld();
        becomesEmptyIfTheRegisterIs();
        keepsTheObjectLive();
        Calls.testsItsArguments("put");
        Due.end();
    }

    private static void fillsThatGlobalAlone() {
        ThreadHeap heap = Heaps.full();
        Due.answer("put(0, 1, 2)", heap.put(0, 1, 2), 0);
        Due.answer("serialOf(1)", heap.serialOf(1), 3);
        Due.answer("serialOf(0)", heap.serialOf(0), 0);
        Due.answer("put(0, 0, 3)", heap.put(0, 0, 3), 0);
        Due.answer("serialOf(0)", heap.serialOf(0), 4);
        Due.answer("serialOf(1)", heap.serialOf(1), 3);
        Due.answer("the register still holds", heap.serial(0, 2), 3);
    }

    private static void replacesWhatTheGlobalHeld() {
        ThreadHeap heap = Heaps.busy();
        Due.answer("put(2, 0, 3)", heap.put(2, 0, 3), 0);
        Due.answer("serialOf(0)", heap.serialOf(0), 3);
    }

    // "(or becomes empty)"
    private static void becomesEmptyIfTheRegisterIs() {
        ThreadHeap heap = Heaps.busy();
        Due.answer("put(1, 0, 0)", heap.put(1, 0, 0), 0);
        Due.answer("serialOf(0)", heap.serialOf(0), 0);
        for (int g = 0; g < 2; g++) {
            int global = g;
            Due.changesNothing(() -> new ThreadHeap(4), "put(0, " + g + ", 0) of an empty register",
                any -> any.put(0, global, 0), 0);
        }
        ThreadHeap chain = Heaps.chain();
        Due.answer("put(0, 1, 0)", chain.put(0, 1, 0), 0);
        Due.answer("live after the last holder became empty", chain.live(), 0);
    }

    private static void keepsTheObjectLive() {
        for (int g = 0; g < 2; g++) {
            ThreadHeap heap = Heaps.full();
            heap.put(0, g, 1);
            heap.drop(0, 1);
            Due.answer("live", heap.live(), 4);
            Due.answer("make", heap.make(0, 1, 0), ThreadHeap.FULL);
            heap.put(0, g, 1);
            Due.answer("live", heap.live(), 3);
            Due.answer("make", heap.make(0, 1, 0), 5);
        }
    }
}

/** Promise 6: store. */
public final class StoreTest {
    public static void main(String[] args) {
        fillsThatFieldAlone();
        becomesEmptyIfTheRegisterIs();
        storesAnObjectInItself();
        isSeenThroughEveryHolder();
        refusesAnEmptyRegister();
        Calls.testsItsArguments("store");
        Due.end();
    }

    private static void fillsThatFieldAlone() {
        ThreadHeap heap = Heaps.full();
        Due.answer("store(0, 0, 1, 2)", heap.store(0, 0, 1, 2), 0);
        Due.answer("serialIn(0, 0, 1)", heap.serialIn(0, 0, 1), 3);
        Due.answer("serialIn(0, 0, 0)", heap.serialIn(0, 0, 0), 0);
        Due.answer("store(0, 0, 0, 3)", heap.store(0, 0, 0, 3), 0);
        Due.answer("serialIn(0, 0, 0)", heap.serialIn(0, 0, 0), 4);
        Due.answer("serialIn(0, 0, 1)", heap.serialIn(0, 0, 1), 3);
        Due.answer("serialIn(0, 2, 0)", heap.serialIn(0, 2, 0), 0);
        Due.answer("the register still holds", heap.serial(0, 3), 4);
        Due.answer("store(0, 0, 0, 1)", heap.store(0, 0, 0, 1), 0);
        Due.answer("serialIn(0, 0, 0)", heap.serialIn(0, 0, 0), 2);
    }

    // "(it becomes empty if the register is)"
    private static void becomesEmptyIfTheRegisterIs() {
        ThreadHeap heap = Heaps.busy();
        Due.answer("store(0, 0, 0, 3)", heap.store(0, 0, 0, 3), 0);
        Due.answer("serialIn(0, 0, 0)", heap.serialIn(0, 0, 0), 0);
        heap.drop(0, 1);
        Due.answer("live after the last holder became empty", heap.live(), 2);
        Due.changesNothing(Heaps::busy, "store of an empty register into an empty field",
            any -> any.store(0, 0, 1, 2), 0);
    }

    // "each empty or holding an object (also itself)"
    private static void storesAnObjectInItself() {
        ThreadHeap heap = new ThreadHeap(4);
        heap.make(2, 1, 5);
        Due.answer("store(2, 1, 0, 1)", heap.store(2, 1, 0, 1), 0);
        Due.answer("store(2, 1, 1, 1)", heap.store(2, 1, 1, 1), 0);
        Due.answer("serialIn(2, 1, 0)", heap.serialIn(2, 1, 0), 1);
        Due.answer("serialIn(2, 1, 1)", heap.serialIn(2, 1, 1), 1);
        Due.answer("live", heap.live(), 1);
        heap.drop(2, 1);
        Due.answer("live after the drop", heap.live(), 0);
    }

    private static void isSeenThroughEveryHolder() {
        ThreadHeap heap = Heaps.busy();
        heap.make(1, 0, 50);
        Due.answer("store(1, 2, 1, 0)", heap.store(1, 2, 1, 0), 0);
        Due.answer("serialIn through the other thread", heap.serialIn(2, 3, 1), 5);
    }

    // "EMPTY if register s is empty.": whether register r holds an object or not.
    private static void refusesAnEmptyRegister() {
        for (int f = 0; f < 2; f++) {
            int field = f;
            Due.changesNothing(Heaps::busy, "store(0, 2, " + f + ", 0)",
                heap -> heap.store(0, 2, field, 0), ThreadHeap.EMPTY);
            Due.changesNothing(Heaps::busy, "store(1, 0, " + f + ", 1)",
                heap -> heap.store(1, 0, field, 1), ThreadHeap.EMPTY);
            Due.changesNothing(Heaps::busy, "store(2, 1, " + f + ", 1)",
                heap -> heap.store(2, 1, field, 1), ThreadHeap.EMPTY);
            Due.changesNothing(() -> new ThreadHeap(4), "store(2, 0, " + f + ", 0)",
                heap -> heap.store(2, 0, field, 0), ThreadHeap.EMPTY);
        }
        ThreadHeap heap = Heaps.busy();
        heap.store(2, 0, 0, 3);
        heap.make(2, 0, 50);
        Due.answer("serialIn of what was made after the refused store", heap.serialIn(2, 0, 0), 0);
    }
}

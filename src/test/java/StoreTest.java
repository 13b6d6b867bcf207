/** Promise 6: store. */
public final class StoreTest {
    public static void main(String[] args) {
        fillsThatFieldAlone();
        emptiesTheFieldForAnEmptyRegister();
        storesAnObjectInItself();
        isSeenThroughEveryHolder();
        refusesAnEmptyRegister();
        Due.wrongArguments("store", "trfr", (heap, a) -> heap.store(a[0], a[1], a[2], a[3]),
            ThreadHeap.BAD_ARG);
        Due.end();
    }

    private static void fillsThatFieldAlone() {
        ThreadHeap heap = Due.fullHeap();
        Due.answer("store(0, 0, 1, 2)", heap.store(0, 0, 1, 2), 0);
        Due.answer("serialIn(0, 0, 1)", heap.serialIn(0, 0, 1), 3);
        Due.answer("serialIn(0, 0, 0)", heap.serialIn(0, 0, 0), 0);
        Due.answer("store(0, 0, 0, 3)", heap.store(0, 0, 0, 3), 0);
        Due.answer("serialIn(0, 0, 0)", heap.serialIn(0, 0, 0), 4);
        Due.answer("serialIn(0, 0, 1)", heap.serialIn(0, 0, 1), 3);
        Due.answer("serialIn(0, 2, 0)", heap.serialIn(0, 2, 0), 0);
        Due.answer("the register still holds", heap.serial(0, 3), 4);
        Due.answer("store(0, 0, 0, 1)", heap.store(0, 0, 0, 1), 0);
        Due.answer("serialIn(0, 0, 0)", heap.serialIn(0, 0, 0), 2);
    }

    private static void emptiesTheFieldForAnEmptyRegister() {
        ThreadHeap heap = Due.busyHeap();
        Due.answer("store(0, 0, 0, 3)", heap.store(0, 0, 0, 3), 0);
        Due.answer("serialIn(0, 0, 0)", heap.serialIn(0, 0, 0), 0);
        heap.drop(0, 1);
        Due.answer("live", heap.live(), 2);
    }

    private static void storesAnObjectInItself() {
        ThreadHeap heap = new ThreadHeap(4);
        heap.make(2, 1, 5);
        Due.answer("store(2, 1, 0, 1)", heap.store(2, 1, 0, 1), 0);
        Due.answer("store(2, 1, 1, 1)", heap.store(2, 1, 1, 1), 0);
        Due.answer("serialIn(2, 1, 0)", heap.serialIn(2, 1, 0), 1);
        Due.answer("serialIn(2, 1, 1)", heap.serialIn(2, 1, 1), 1);
        Due.answer("live", heap.live(), 1);
        heap.drop(2, 1);
        Due.answer("live after the drop", heap.live(), 0);
    }

    private static void isSeenThroughEveryHolder() {
        ThreadHeap heap = Due.busyHeap();
        heap.make(1, 0, 50);
        Due.answer("store(1, 2, 1, 0)", heap.store(1, 2, 1, 0), 0);
        Due.answer("serialIn through the other thread", heap.serialIn(2, 3, 1), 5);
    }

    private static void refusesAnEmptyRegister() {
        Due.refused(Due.busyHeap(), "store(0, 2, 0, 0)", heap -> heap.store(0, 2, 0, 0), ThreadHeap.EMPTY);
        Due.refused(Due.busyHeap(), "store(1, 0, 1, 1)", heap -> heap.store(1, 0, 1, 1), ThreadHeap.EMPTY);
        Due.refused(new ThreadHeap(4), "store(2, 0, 0, 0)", heap -> heap.store(2, 0, 0, 0), ThreadHeap.EMPTY);
    }
}

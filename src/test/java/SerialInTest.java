/** Promise 13: serialIn. */
public final class SerialInTest {
    public static void main(String[] args) {
        tellsTheSerialNumberInTheField();
        tellsZeroForAnEmptyField();
        refusesAnEmptyRegister();
        Calls.testsItsArguments("serialIn");
        Due.end();
    }

    private static void tellsTheSerialNumberInTheField() {
        ThreadHeap heap = Heaps.busy();
        Due.answer("serialIn(0, 0, 0)", heap.serialIn(0, 0, 0), 2);
        Due.answer("serialIn(0, 1, 1)", heap.serialIn(0, 1, 1), 1);
        Due.answer("serialIn(1, 2, 0)", heap.serialIn(1, 2, 0), 3);
        heap.drop(0, 1);
        Due.answer("serialIn of what only the field holds", heap.serialIn(0, 0, 0), 2);
    }

    // "0 if the field is empty."
    private static void tellsZeroForAnEmptyField() {
        ThreadHeap heap = Heaps.busy();
        Due.answer("serialIn(0, 0, 1)", heap.serialIn(0, 0, 1), 0);
        Due.answer("serialIn(0, 1, 0)", heap.serialIn(0, 1, 0), 0);
        Due.answer("serialIn(2, 3, 1)", heap.serialIn(2, 3, 1), 0);
        heap.store(0, 0, 0, 3);
        Due.answer("serialIn of a field that became empty", heap.serialIn(0, 0, 0), 0);
        heap.make(2, 0, 50);
        Due.answer("serialIn of a new object", heap.serialIn(2, 0, 0), 0);
        Due.answer("serialIn of a new object", heap.serialIn(2, 0, 1), 0);
    }

    // "EMPTY if the register is empty.": not 0.
    private static void refusesAnEmptyRegister() {
        for (int f = 0; f < 2; f++) {
            int field = f;
            Due.changesNothing(Heaps::busy, "serialIn of an empty register",
                heap -> heap.serialIn(2, 0, field), ThreadHeap.EMPTY);
            Due.changesNothing(() -> new ThreadHeap(4), "serialIn of an empty register",
                heap -> heap.serialIn(0, 0, field), ThreadHeap.EMPTY);
        }
    }
}

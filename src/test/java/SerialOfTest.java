/** Promise 14: serialOf. */
public final class SerialOfTest {
    public static void main(String[] args) {
        tellsTheSerialNumberInTheGlobal();
        tellsZeroForAnEmptyGlobal();
        Calls.testsItsArguments("serialOf");
        Due.end();
    }

    private static void tellsTheSerialNumberInTheGlobal() {
        ThreadHeap heap = Heaps.busy();
        Due.answer("serialOf(0)", heap.serialOf(0), 1);
        heap.drop(0, 0);
        Due.answer("serialOf(0) that alone holds the object", heap.serialOf(0), 1);
        heap.put(2, 1, 3);
        Due.answer("serialOf(1)", heap.serialOf(1), 3);
        Due.answer("serialOf(0) beside it", heap.serialOf(0), 1);
    }

    // "0 if it is empty.": not EMPTY.
    private static void tellsZeroForAnEmptyGlobal() {
        ThreadHeap heap = Heaps.busy();
        Due.answer("serialOf(1) that became empty", heap.serialOf(1), 0);
        heap.put(2, 0, 0);
        Due.answer("serialOf(0) that became empty", heap.serialOf(0), 0);
        Due.answer("serialOf(0) never used", new ThreadHeap(4).serialOf(0), 0);
        Due.answer("serialOf(1) never used", new ThreadHeap(4).serialOf(1), 0);
    }
}

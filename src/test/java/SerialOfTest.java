/** Promise 14: serialOf. */
public final class SerialOfTest {
    public static void main(String[] args) {
        ThreadHeap heap = Due.busyHeap();
        Due.answer("serialOf(0)", heap.serialOf(0), 1);
        Due.answer("serialOf(1) that became empty", heap.serialOf(1), 0);
        heap.drop(0, 0);
        Due.answer("serialOf(0) that alone holds the object", heap.serialOf(0), 1);
        heap.put(2, 1, 3);
        Due.answer("serialOf(1)", heap.serialOf(1), 3);
        Due.answer("serialOf(0) beside it", heap.serialOf(0), 1);
        Due.wrongArguments("serialOf", "f", (any, a) -> any.serialOf(a[0]), ThreadHeap.BAD_ARG);
        Due.end();
    }
}

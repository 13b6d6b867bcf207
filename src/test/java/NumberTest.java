/** Promise 11: number. */
public final class NumberTest {
    public static void main(String[] args) {
        tellsTheObjectsNumber();
        tellsZeroForAnEmptyRegister();
        Due.wrongArguments("number", "tr", (heap, a) -> heap.number(a[0], a[1]), 0);
        Due.end();
    }

    private static void tellsTheObjectsNumber() {
        ThreadHeap heap = Due.busyHeap();
        Due.answer("number(0, 0)", heap.number(0, 0), 10);
        Due.answer("number(0, 1)", heap.number(0, 1), 20);
        Due.answer("number(1, 2)", heap.number(1, 2), 30);
        Due.answer("number(2, 3)", heap.number(2, 3), 30);
        heap.make(2, 0, Integer.MIN_VALUE);
        Due.answer("number(2, 0)", heap.number(2, 0), Integer.MIN_VALUE);
    }

    private static void tellsZeroForAnEmptyRegister() {
        ThreadHeap heap = Due.busyHeap();
        heap.setNumber(2, 0, 7);
        Due.answer("number of a register that was dropped", heap.number(2, 0), 0);
        Due.answer("number of a register never used", heap.number(1, 3), 0);
    }
}

/** Promise 13: serialIn. */
public final class SerialInTest {
    public static void main(String[] args) {
        tellsTheSerialNumberInTheField();
        tellsZeroForAnEmptyField();
        refusesAnEmptyRegister();
        Due.wrongArguments("serialIn", "trf", (heap, a) -> heap.serialIn(a[0], a[1], a[2]),
            ThreadHeap.BAD_ARG);
        Due.end();
    }

    private static void tellsTheSerialNumberInTheField() {
        ThreadHeap heap = Due.busyHeap();
        Due.answer("serialIn(0, 0, 0)", heap.serialIn(0, 0, 0), 2);
        Due.answer("serialIn(0, 1, 1)", heap.serialIn(0, 1, 1), 1);
        Due.answer("serialIn(1, 2, 0)", heap.serialIn(1, 2, 0), 3);
        heap.drop(0, 1);
        Due.answer("serialIn of what only the field holds", heap.serialIn(0, 0, 0), 2);
    }

    private static void tellsZeroForAnEmptyField() {
        ThreadHeap heap = Due.busyHeap();
        Due.answer("serialIn(0, 0, 1)", heap.serialIn(0, 0, 1), 0);
        Due.answer("serialIn(0, 1, 0)", heap.serialIn(0, 1, 0), 0);
        Due.answer("serialIn(2, 3, 1)", heap.serialIn(2, 3, 1), 0);
    }

    private static void refusesAnEmptyRegister() {
        for (int f = 0; f < 2; f++) {
            int field = f;
            Due.refused(Due.busyHeap(), "serialIn of an empty register",
                heap -> heap.serialIn(2, 0, field), ThreadHeap.EMPTY);
            Due.refused(new ThreadHeap(4), "serialIn of an empty register",
                heap -> heap.serialIn(0, 0, field), ThreadHeap.EMPTY);
        }
    }
}

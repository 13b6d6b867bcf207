/** Promise 12: serial. */
public final class SerialTest {
    public static void main(String[] args) {
        tellsTheObjectsSerialNumber();
        tellsZeroForAnEmptyRegister();
        goesOnCountingInReusedRoom();
        Calls.testsItsArguments("serial");
        Due.end();
    }

    private static void tellsTheObjectsSerialNumber() {
        ThreadHeap heap = Heaps.busy();
        Due.answer("serial(0, 0)", heap.serial(0, 0), 1);
        Due.answer("serial(0, 1)", heap.serial(0, 1), 2);
        Due.answer("serial(1, 2)", heap.serial(1, 2), 3);
        Due.answer("serial(2, 3)", heap.serial(2, 3), 3);
    }

    // "0 if it is empty": not EMPTY.
    private static void tellsZeroForAnEmptyRegister() {
        ThreadHeap heap = Heaps.busy();
        Due.answer("serial of a register that was dropped", heap.serial(2, 0), 0);
        Due.answer("serial of a register never used", heap.serial(1, 3), 0);
        heap.load(0, 0, 0, 1);
        Due.answer("serial of a register that got an empty field", heap.serial(0, 0), 0);
        heap.get(2, 3, 1);
        Due.answer("serial of a register that got an empty global", heap.serial(2, 3), 0);
        heap.copy(0, 1, 2);
        Due.answer("serial of a register that got an empty register", heap.serial(0, 1), 0);
    }

    private static void goesOnCountingInReusedRoom() {
        ThreadHeap heap = Heaps.full();
        for (int i = 5; i <= 60; i++) {
            int r = (i - 1) % 4;
            heap.drop(0, r);
            Due.answer("make", heap.make(1, r, i), i);
            Due.answer("serial", heap.serial(1, r), i);
            heap.swap(1, r, 0, r);
            Due.answer("serial after the swap", heap.serial(0, r), i);
            Due.answer("serial of the oldest", heap.serial(0, i % 4), i - 3);
        }
    }
}

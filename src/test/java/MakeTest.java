/** Promise 2: make. */
public final class MakeTest {
    public static void main(String[] args) {
        putsANewObjectIntoTheRegister();
        replacesWhatTheRegisterHeld();
        refusesWhenFull();
        countsWhatTheRegisterHoldsAsHeld();
        usesTheRoomOfWhatNobodyReaches();
        usesTheRoomOfARing();
        reusedRoomIsClean();
        keepsWhatOnlyFieldsHold();
        Due.wrongArguments("make", "trn", (heap, a) -> heap.make(a[0], a[1], a[2]), ThreadHeap.BAD_ARG);
        Due.end();
    }

    private static void putsANewObjectIntoTheRegister() {
        ThreadHeap heap = new ThreadHeap(16);
        int made = 0;
        int[] numbers = {Integer.MIN_VALUE, -1, 0, 1, Integer.MAX_VALUE};
        for (int t = 0; t < 3; t++) {
            for (int r = 0; r < 4; r++) {
                int n = numbers[made % numbers.length];
                made++;
                Due.answer("make", heap.make(t, r, n), made);
                Due.answer("serial after make", heap.serial(t, r), made);
                Due.answer("number after make", heap.number(t, r), n);
                Due.answer("serialIn 0 after make", heap.serialIn(t, r, 0), 0);
                Due.answer("serialIn 1 after make", heap.serialIn(t, r, 1), 0);
            }
        }
        for (int t = 0; t < 3; t++) {
            for (int r = 0; r < 4; r++) {
                Due.answer("serial after all makes", heap.serial(t, r), 4 * t + r + 1);
            }
        }
    }

    private static void replacesWhatTheRegisterHeld() {
        ThreadHeap heap = Due.busyHeap();
        Due.answer("make over an object", heap.make(0, 1, 50), 5);
        Due.answer("serial", heap.serial(0, 1), 5);
        Due.answer("the old object stays in the field", heap.serialIn(0, 0, 0), 2);
    }

    private static void refusesWhenFull() {
        for (int t = 0; t < 3; t++) {
            for (int r = 0; r < 4; r++) {
                int thread = t;
                int register = r;
                Due.refused(Due.fullHeap(), "make in a full heap",
                    heap -> heap.make(thread, register, 9), ThreadHeap.FULL);
            }
        }
        ThreadHeap heap = Due.fullHeap();
        heap.make(1, 0, 9);
        heap.drop(0, 2);
        Due.answer("make after a refused one and a drop", heap.make(1, 0, 9), 5);
    }

    private static void countsWhatTheRegisterHoldsAsHeld() {
        ThreadHeap heap = Due.fullHeap();
        Due.answer("make over the only holder", heap.make(0, 3, 9), ThreadHeap.FULL);
        Due.answer("the register still holds", heap.serial(0, 3), 4);
        heap.drop(0, 3);
        Due.answer("make after the drop", heap.make(0, 3, 9), 5);
    }

    private static void usesTheRoomOfWhatNobodyReaches() {
        ThreadHeap heap = new ThreadHeap(4);
        for (int i = 1; i <= 500; i++) {
            Due.answer("make into one register again", heap.make(2, 3, i), i);
        }
        Due.answer("number of the last one", heap.number(2, 3), 500);
    }

    private static void usesTheRoomOfARing() {
        ThreadHeap heap = Due.fullHeap();
        for (int r = 0; r < 4; r++) {
            heap.store(0, r, r % 2, (r + 1) % 4);
        }
        heap.drop(0, 0);
        heap.drop(0, 1);
        heap.drop(0, 2);
        Due.answer("make while one register holds the ring", heap.make(1, 0, 0), ThreadHeap.FULL);
        heap.drop(0, 3);
        for (int r = 0; r < 4; r++) {
            Due.answer("make after the ring is lost", heap.make(1, r, 0), r + 5);
        }
        Due.answer("make past the room", heap.make(0, 0, 0), ThreadHeap.FULL);
    }

    private static void reusedRoomIsClean() {
        ThreadHeap heap = Due.fullHeap();
        for (int r = 0; r < 4; r++) {
            heap.store(0, r, 0, 0);
            heap.store(0, r, 1, r);
        }
        heap.drop(0, 1);
        Due.answer("make", heap.make(0, 1, 0), 5);
        Due.answer("number in reused room", heap.number(0, 1), 0);
        Due.answer("serialIn 0 in reused room", heap.serialIn(0, 1, 0), 0);
        Due.answer("serialIn 1 in reused room", heap.serialIn(0, 1, 1), 0);
    }

    private static void keepsWhatOnlyFieldsHold() {
        ThreadHeap heap = Due.fullHeap();
        heap.store(0, 2, 1, 3);
        heap.store(0, 1, 0, 2);
        heap.store(0, 0, 1, 1);
        heap.put(0, 1, 0);
        for (int r = 0; r < 4; r++) {
            heap.drop(0, r);
        }
        Due.answer("make while a global holds a chain of all", heap.make(1, 0, 0), ThreadHeap.FULL);
        heap.get(2, 0, 1);
        heap.load(2, 1, 0, 1);
        heap.load(2, 1, 1, 0);
        Due.answer("make again", heap.make(1, 0, 0), ThreadHeap.FULL);
        heap.load(2, 1, 1, 1);
        Due.answer("number at the end of the chain", heap.number(2, 1), 4);
    }
}

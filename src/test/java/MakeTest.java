/** Promise 2: make. */
public final class MakeTest {
    public static void main(String[] args) {
        putsANewObjectIntoTheRegister();
        replacesWhatTheRegisterHeld();
        refusesAtTheRoomAndNotBelow();
        refusesInEveryRegister();
        refusesWhileOnlyAGlobalAndFieldsHold();
        countsWhatTheRegisterHoldsAsHeld();
        givesTheNextSerialNumberAfterRefusals();
        usesTheRoomOfWhatNobodyReaches();
        usesTheRoomOfARing();
        reusedRoomIsClean();
        keepsWhatOnlyFieldsHold();
        Calls.testsItsArguments("make");
        Due.end();
    }

    private static void putsANewObjectIntoTheRegister() {
        ThreadHeap heap = new ThreadHeap(16);
        int made = 0;
        int[] numbers = {Integer.MIN_VALUE, -1, 0, 1, Integer.MAX_VALUE};
        for (int t = 0; t < 3; t++) {
            for (int r = 0; r < 4; r++) {
                int n = numbers[made % numbers.length];
                made++;
                Due.answer("make", heap.make(t, r, n), made);
                Due.answer("serial after make", heap.serial(t, r), made);
                Due.answer("number after make", heap.number(t, r), n);
                Due.answer("serialIn 0 after make", heap.serialIn(t, r, 0), 0);
                Due.answer("serialIn 1 after make", heap.serialIn(t, r, 1), 0);
            }
        }
        for (int t = 0; t < 3; t++) {
            for (int r = 0; r < 4; r++) {
                Due.answer("serial after all makes", heap.serial(t, r), 4 * t + r + 1);
            }
        }
    }

    private static void replacesWhatTheRegisterHeld() {
        ThreadHeap heap = Heaps.busy();
        Due.answer("make over an object", heap.make(0, 1, 50), 5);
        Due.answer("serial", heap.serial(0, 1), 5);
        Due.answer("the old object stays in the field", heap.serialIn(0, 0, 0), 2);
    }

    // "FULL if R objects are live before the call": R refuses, R - 1 does not, for each R.
    private static void refusesAtTheRoomAndNotBelow() {
        for (int room = 4; room <= 16; room++) {
            int all = room;
            String in = " in a heap with room for " + room;
            Due.answer("make with one fewer live" + in, Heaps.withLive(room, room - 1).make(2, 3, 0), room);
            Due.changesNothing(() -> Heaps.withLive(all, all), "make with all live" + in,
                heap -> heap.make(2, 3, 0), ThreadHeap.FULL);
            ThreadHeap heap = Heaps.withLive(room, room);
            heap.load(0, 0, 0, 0);
            Due.answer("make after the newest object was lost" + in, heap.make(2, 3, 0), room + 1);
            Due.answer("make once more" + in, heap.make(2, 2, 0), ThreadHeap.FULL);
        }
    }

    private static void refusesInEveryRegister() {
        for (int i = 0; i < 12; i++) {
            int t = i / 4;
            int r = i % 4;
            Due.changesNothing(Heaps::full, "make(" + t + ", " + r + ", 9) in a full heap",
                heap -> heap.make(t, r, 9), ThreadHeap.FULL);
        }
    }

    private static void refusesWhileOnlyAGlobalAndFieldsHold() {
        Due.changesNothing(Heaps::chain, "make while a global and fields hold all",
            heap -> heap.make(1, 0, 9), ThreadHeap.FULL);
        ThreadHeap heap = Heaps.chain();
        heap.put(0, 1, 0);
        for (int i = 5; i <= 8; i++) {
            Due.answer("make after the global became empty", heap.make(1, i - 5, 0), i);
        }
    }

    // "(what register r holds counts as held)"
    private static void countsWhatTheRegisterHoldsAsHeld() {
        for (int r = 0; r < 4; r++) {
            int register = r;
            Due.changesNothing(Heaps::full, "make over the only holder",
                heap -> heap.make(0, register, 9), ThreadHeap.FULL);
            ThreadHeap heap = Heaps.full();
            heap.drop(0, r);
            Due.answer("make after the drop", heap.make(0, r, 9), 5);
        }
        for (int room = 4; room <= 16; room++) {
            ThreadHeap heap = Heaps.withLive(room, room - 1);
            Due.answer("make over the only holder of all but one", heap.make(0, 0, 9), room);
            Due.answer("live after it", heap.live(), 1);
        }
    }

    // "Otherwise answers the object's serial number."
    private static void givesTheNextSerialNumberAfterRefusals() {
        ThreadHeap heap = Heaps.full();
        for (int i = 5; i <= 40; i++) {
            Due.answer("make in a full heap", heap.make(1, 0, 9), ThreadHeap.FULL);
            Due.answer("make with a wrong register", heap.make(1, 4, 9), ThreadHeap.BAD_ARG);
            heap.drop(0, i % 4);
            Due.answer("make after refused ones and a drop", heap.make(0, i % 4, 9), i);
            Due.answer("its serial", heap.serial(0, i % 4), i);
        }
    }

    private static void usesTheRoomOfWhatNobodyReaches() {
        ThreadHeap heap = new ThreadHeap(4);
        for (int i = 1; i <= 500; i++) {
            Due.answer("make into one register again", heap.make(2, 3, i), i);
        }
        Due.answer("number of the last one", heap.number(2, 3), 500);
    }

    private static void usesTheRoomOfARing() {
        ThreadHeap heap = Heaps.full();
        for (int r = 0; r < 4; r++) {
            heap.store(0, r, r % 2, (r + 1) % 4);
        }
        heap.drop(0, 0);
        heap.drop(0, 1);
        heap.drop(0, 2);
        Due.answer("make while one register holds the ring", heap.make(1, 0, 0), ThreadHeap.FULL);
        heap.drop(0, 3);
        for (int r = 0; r < 4; r++) {
            Due.answer("make after the ring is lost", heap.make(1, r, 0), r + 5);
        }
        Due.answer("make past the room", heap.make(0, 0, 0), ThreadHeap.FULL);
    }

    // "with the number n and empty fields": also where an object with full fields was before.
    private static void reusedRoomIsClean() {
        ThreadHeap heap = Heaps.full();
        for (int r = 0; r < 4; r++) {
            heap.store(0, r, 0, 0);
            heap.store(0, r, 1, r);
        }
        heap.drop(0, 1);
        Due.answer("make", heap.make(0, 1, 0), 5);
        Due.answer("number in reused room", heap.number(0, 1), 0);
        Due.answer("serialIn 0 in reused room", heap.serialIn(0, 1, 0), 0);
        Due.answer("serialIn 1 in reused room", heap.serialIn(0, 1, 1), 0);
    }

    private static void keepsWhatOnlyFieldsHold() {
        ThreadHeap heap = Heaps.chain();
        heap.get(2, 0, 1);
        heap.load(2, 1, 0, 0);
        heap.load(2, 1, 1, 1);
        Due.answer("make", heap.make(1, 0, 0), ThreadHeap.FULL);
        heap.load(2, 1, 1, 0);
        Due.answer("number at the end of the chain", heap.number(2, 1), 4);
    }
}

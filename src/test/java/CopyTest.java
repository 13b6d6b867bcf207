/** Promise 3: copy. */
public final class CopyTest {
    public static void main(String[] args) {
        holdsTheVeryObject();
        overwritesWhatItHeld();
        becomesEmptyIfTheSourceIs();
        copiesARegisterToItself();
        Calls.testsItsArguments("copy");
        Due.end();
    }

    private static void holdsTheVeryObject() {
        ThreadHeap heap = Heaps.busy();
        Due.answer("copy(0, 3, 1)", heap.copy(0, 3, 1), 0);
        Due.answer("serial of the copy", heap.serial(0, 3), 2);
        Due.answer("serial of the source", heap.serial(0, 1), 2);
        heap.setNumber(0, 3, 21);
        Due.answer("number through the source", heap.number(0, 1), 21);
        Due.answer("live", heap.live(), 3);
        Due.answer("made", heap.made(), 4);
    }

    private static void overwritesWhatItHeld() {
        ThreadHeap heap = Heaps.full();
        Due.answer("copy(0, 1, 2)", heap.copy(0, 1, 2), 0);
        Due.answer("serial", heap.serial(0, 1), 3);
        Due.answer("live", heap.live(), 3);
    }

    // "(or is empty if s is)"
    private static void becomesEmptyIfTheSourceIs() {
        ThreadHeap heap = Heaps.busy();
        Due.answer("copy(1, 2, 0)", heap.copy(1, 2, 0), 0);
        Due.answer("serial", heap.serial(1, 2), 0);
        Due.answer("serialIn", heap.serialIn(1, 2, 0), ThreadHeap.EMPTY);
        Due.answer("the other thread's register", heap.serial(2, 3), 3);
        Due.answer("copy(2, 3, 0)", heap.copy(2, 3, 0), 0);
        Due.answer("live after the last holder became empty", heap.live(), 2);
        Due.changesNothing(Heaps::busy, "copy of an empty register to an empty one",
            any -> any.copy(1, 0, 3), 0);
    }

    private static void copiesARegisterToItself() {
        for (int i = 0; i < 12; i++) {
            int t = i / 4;
            int r = i % 4;
            Due.changesNothing(Heaps::busy, "copy(" + t + ", " + r + ", " + r + ")",
                heap -> heap.copy(t, r, r), 0);
        }
    }
}

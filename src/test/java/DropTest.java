/** Promise 4: drop. */
public final class DropTest {
    public static void main(String[] args) {
        emptiesThatRegisterAlone();
        leavesWhatOthersHold();
        dropsAnEmptyRegister();
        Calls.testsItsArguments("drop");
        Due.end();
    }

    private static void emptiesThatRegisterAlone() {
        for (int r = 0; r < 4; r++) {
            ThreadHeap heap = Heaps.full();
            Due.answer("drop", heap.drop(0, r), 0);
            for (int other = 0; other < 4; other++) {
                Due.answer("serial after a drop", heap.serial(0, other), other == r ? 0 : other + 1);
            }
            Due.answer("live after a drop", heap.live(), 3);
            Due.answer("made after a drop", heap.made(), 4);
        }
    }

    private static void leavesWhatOthersHold() {
        ThreadHeap heap = Heaps.busy();
        Due.answer("drop(1, 2)", heap.drop(1, 2), 0);
        Due.answer("the other thread's register", heap.serial(2, 3), 3);
        Due.answer("its number", heap.number(2, 3), 30);
        Due.answer("drop(0, 0)", heap.drop(0, 0), 0);
        Due.answer("the global", heap.serialOf(0), 1);
        Due.answer("live", heap.live(), 3);
    }

    // "Answers 0.": also if the register was empty before.
    private static void dropsAnEmptyRegister() {
        Due.changesNothing(Heaps::busy, "drop of an empty register", heap -> heap.drop(2, 2), 0);
        Due.changesNothing(() -> new ThreadHeap(4), "drop in a new heap", heap -> heap.drop(0, 0), 0);
        ThreadHeap heap = Heaps.full();
        Due.answer("drop", heap.drop(0, 3), 0);
        Due.answer("drop again", heap.drop(0, 3), 0);
        Due.answer("live", heap.live(), 3);
    }
}

/** Promise 4: drop. */
public final class DropTest {
    public static void main(String[] args) {
        emptiesThatRegisterAlone();
        leavesWhatOthersHold();
        dropsAnEmptyRegister();
        Due.wrongArguments("drop", "tr", (heap, a) -> heap.drop(a[0], a[1]), ThreadHeap.BAD_ARG);
        Due.end();
    }

    private static void emptiesThatRegisterAlone() {
        for (int r = 0; r < 4; r++) {
            ThreadHeap heap = Due.fullHeap();
            Due.answer("drop", heap.drop(0, r), 0);
            for (int other = 0; other < 4; other++) {
                Due.answer("serial after a drop", heap.serial(0, other), other == r ? 0 : other + 1);
            }
            Due.answer("live after a drop", heap.live(), 3);
            Due.answer("made after a drop", heap.made(), 4);
        }
    }

    private static void leavesWhatOthersHold() {
        ThreadHeap heap = Due.busyHeap();
        Due.answer("drop(1, 2)", heap.drop(1, 2), 0);
        Due.answer("the other thread's register", heap.serial(2, 3), 3);
        Due.answer("its number", heap.number(2, 3), 30);
        Due.answer("drop(0, 0)", heap.drop(0, 0), 0);
        Due.answer("the global", heap.serialOf(0), 1);
        Due.answer("live", heap.live(), 3);
    }

    private static void dropsAnEmptyRegister() {
        ThreadHeap heap = Due.busyHeap();
        int[] before = Due.view(heap);
        Due.answer("drop of an empty register", heap.drop(2, 2), 0);
        Due.same("after drop of an empty register", Due.view(heap), before);
    }
}

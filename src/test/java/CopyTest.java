/** Promise 3: copy. */
public final class CopyTest {
    public static void main(String[] args) {
        holdsTheVeryObject();
        overwritesWhatItHeld();
        copiesAnEmptyRegister();
        copiesARegisterToItself();
        Due.wrongArguments("copy", "trr", (heap, a) -> heap.copy(a[0], a[1], a[2]), ThreadHeap.BAD_ARG);
        Due.end();
    }

    private static void holdsTheVeryObject() {
        ThreadHeap heap = Due.busyHeap();
        Due.answer("copy(0, 3, 1)", heap.copy(0, 3, 1), 0);
        Due.answer("serial of the copy", heap.serial(0, 3), 2);
        Due.answer("serial of the source", heap.serial(0, 1), 2);
        heap.setNumber(0, 3, 21);
        Due.answer("number through the source", heap.number(0, 1), 21);
        Due.answer("live", heap.live(), 3);
        Due.answer("made", heap.made(), 4);
    }

    private static void overwritesWhatItHeld() {
        ThreadHeap heap = Due.fullHeap();
        Due.answer("copy(0, 1, 2)", heap.copy(0, 1, 2), 0);
        Due.answer("serial", heap.serial(0, 1), 3);
        Due.answer("live", heap.live(), 3);
    }

    private static void copiesAnEmptyRegister() {
        ThreadHeap heap = Due.busyHeap();
        Due.answer("copy(1, 2, 0)", heap.copy(1, 2, 0), 0);
        Due.answer("serial", heap.serial(1, 2), 0);
        Due.answer("the other thread's register", heap.serial(2, 3), 3);
    }

    private static void copiesARegisterToItself() {
        ThreadHeap heap = Due.busyHeap();
        int[] before = Due.view(heap);
        Due.answer("copy(0, 1, 1)", heap.copy(0, 1, 1), 0);
        Due.answer("copy(1, 1, 1)", heap.copy(1, 1, 1), 0);
        Due.same("after copies to itself", Due.view(heap), before);
    }
}

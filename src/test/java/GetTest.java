/** Promise 8: get. */
public final class GetTest {
    public static void main(String[] args) {
        getsWhatThatGlobalHolds();
        becomesEmptyIfTheGlobalIs();
        getsWhatItHoldsAlready();
        Calls.testsItsArguments("get");
        Due.end();
    }

    private static void getsWhatThatGlobalHolds() {
        ThreadHeap heap = Heaps.full();
        heap.put(0, 0, 1);
        heap.put(0, 1, 3);
        Due.answer("get(1, 2, 0)", heap.get(1, 2, 0), 0);
        Due.answer("serial(1, 2)", heap.serial(1, 2), 2);
        Due.answer("get(2, 3, 1)", heap.get(2, 3, 1), 0);
        Due.answer("serial(2, 3)", heap.serial(2, 3), 4);
        Due.answer("get(0, 0, 1)", heap.get(0, 0, 1), 0);
        Due.answer("serial(0, 0)", heap.serial(0, 0), 4);
        heap.setNumber(1, 2, 22);
        Due.answer("number of the very object", heap.number(0, 1), 22);
        Due.answer("the global still holds", heap.serialOf(0), 2);
        Due.answer("live", heap.live(), 3);
    }

    // "(or becomes empty)"
    private static void becomesEmptyIfTheGlobalIs() {
        ThreadHeap heap = Heaps.busy();
        Due.answer("get(0, 1, 1)", heap.get(0, 1, 1), 0);
        Due.answer("serial(0, 1)", heap.serial(0, 1), 0);
        Due.answer("serial(0, 0)", heap.serial(0, 0), 1);
        heap.drop(1, 2);
        Due.answer("get(2, 3, 1)", heap.get(2, 3, 1), 0);
        Due.answer("live after the last holder became empty", heap.live(), 2);
        for (int g = 0; g < 2; g++) {
            int global = g;
            Due.changesNothing(Heaps::full, "get(1, 0, " + g + ") of an empty global",
                any -> any.get(1, 0, global), 0);
        }
    }

    private static void getsWhatItHoldsAlready() {
        Due.changesNothing(Heaps::busy, "get(0, 0, 0)", heap -> heap.get(0, 0, 0), 0);
    }
}

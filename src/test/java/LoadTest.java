/** Promise 5: load. */
public final class LoadTest {
    public static void main(String[] args) {
        getsWhatTheFieldHolds();
        becomesEmptyIfTheFieldIs();
        loadsIntoItsOwnRegister();
        loadsAnObjectThatHoldsItself();
        refusesAnEmptyRegister();
        Calls.testsItsArguments("load");
        Due.end();
    }

    private static void getsWhatTheFieldHolds() {
        ThreadHeap heap = Heaps.busy();
        Due.answer("load(0, 2, 0, 0)", heap.load(0, 2, 0, 0), 0);
        Due.answer("serial", heap.serial(0, 2), 2);
        Due.answer("load(0, 3, 1, 1)", heap.load(0, 3, 1, 1), 0);
        Due.answer("serial", heap.serial(0, 3), 1);
        heap.setNumber(0, 2, 22);
        Due.answer("number of the very object", heap.number(0, 1), 22);
        Due.answer("the field still holds", heap.serialIn(0, 0, 0), 2);
        Due.answer("live", heap.live(), 3);
    }

    // "(it becomes empty if the field is)"
    private static void becomesEmptyIfTheFieldIs() {
        ThreadHeap heap = Heaps.busy();
        Due.answer("load(0, 1, 0, 1)", heap.load(0, 1, 0, 1), 0);
        Due.answer("serial", heap.serial(0, 1), 0);
        Due.answer("serial of the source", heap.serial(0, 0), 1);
        Due.answer("load(2, 3, 3, 1)", heap.load(2, 3, 3, 1), 0);
        Due.answer("serial", heap.serial(2, 3), 0);
        Due.answer("load(1, 2, 2, 1)", heap.load(1, 2, 2, 1), 0);
        Due.answer("live after the last holder became empty", heap.live(), 2);
        Due.changesNothing(Heaps::busy, "load of an empty field into an empty register",
            any -> any.load(0, 2, 0, 1), 0);
    }

    // "r and s may be the same."
    private static void loadsIntoItsOwnRegister() {
        ThreadHeap heap = Heaps.busy();
        Due.answer("load(0, 0, 0, 0)", heap.load(0, 0, 0, 0), 0);
        Due.answer("serial", heap.serial(0, 0), 2);
        Due.answer("load(0, 0, 0, 1)", heap.load(0, 0, 0, 1), 0);
        Due.answer("serial", heap.serial(0, 0), 1);
        Due.answer("load(0, 0, 0, 1)", heap.load(0, 0, 0, 1), 0);
        Due.answer("serial", heap.serial(0, 0), 0);
        Due.answer("load(0, 0, 0, 0)", heap.load(0, 0, 0, 0), ThreadHeap.EMPTY);
    }

    private static void loadsAnObjectThatHoldsItself() {
        Due.changesNothing(Heaps::busy, "load(1, 2, 2, 0)", heap -> heap.load(1, 2, 2, 0), 0);
        ThreadHeap heap = Heaps.busy();
        Due.answer("load(1, 0, 2, 0)", heap.load(1, 0, 2, 0), 0);
        Due.answer("serial", heap.serial(1, 0), 3);
        Due.answer("live", heap.live(), 3);
    }

    // "EMPTY if register s is empty.": register r keeps what it holds.
    private static void refusesAnEmptyRegister() {
        for (int f = 0; f < 2; f++) {
            int field = f;
            Due.changesNothing(Heaps::busy, "load(0, 0, 2, " + f + ")",
                heap -> heap.load(0, 0, 2, field), ThreadHeap.EMPTY);
            Due.changesNothing(Heaps::busy, "load(1, 2, 3, " + f + ")",
                heap -> heap.load(1, 2, 3, field), ThreadHeap.EMPTY);
            Due.changesNothing(Heaps::busy, "load(2, 1, 1, " + f + ")",
                heap -> heap.load(2, 1, 1, field), ThreadHeap.EMPTY);
            Due.changesNothing(() -> new ThreadHeap(4), "load(2, 0, 0, " + f + ")",
                heap -> heap.load(2, 0, 0, field), ThreadHeap.EMPTY);
        }
    }
}

/** Promise 10: setNumber. */
public final class SetNumberTest {
    public static void main(String[] args) {
        givesTheObjectAnyNumber();
        isSeenThroughEveryHolder();
        refusesAnEmptyRegister();
        Calls.testsItsArguments("setNumber");
        Due.end();
    }

    private static void givesTheObjectAnyNumber() {
        ThreadHeap heap = Heaps.full();
        for (int n : new int[] {0, 1, -1, -2, -3, 512, Integer.MAX_VALUE, Integer.MIN_VALUE}) {
            Due.answer("setNumber(0, 2, " + n + ")", heap.setNumber(0, 2, n), 0);
            Due.answer("number(0, 2)", heap.number(0, 2), n);
        }
        Due.answer("number(0, 1)", heap.number(0, 1), 2);
        Due.answer("number(0, 3)", heap.number(0, 3), 4);
        Due.answer("serial(0, 2)", heap.serial(0, 2), 3);
    }

    private static void isSeenThroughEveryHolder() {
        ThreadHeap heap = Heaps.busy();
        Due.answer("setNumber(1, 2, 31)", heap.setNumber(1, 2, 31), 0);
        Due.answer("number(2, 3)", heap.number(2, 3), 31);
        heap.load(2, 0, 3, 0);
        Due.answer("number(2, 0)", heap.number(2, 0), 31);
    }

    // "EMPTY if the register is empty.": the number goes nowhere.
    private static void refusesAnEmptyRegister() {
        for (int n : new int[] {5, 0, Integer.MIN_VALUE, Integer.MAX_VALUE}) {
            Due.changesNothing(Heaps::busy, "setNumber(0, 2, " + n + ")",
                heap -> heap.setNumber(0, 2, n), ThreadHeap.EMPTY);
            Due.changesNothing(Heaps::busy, "setNumber(2, 0, " + n + ") after a drop",
                heap -> heap.setNumber(2, 0, n), ThreadHeap.EMPTY);
            Due.changesNothing(() -> new ThreadHeap(4), "setNumber(2, 3, " + n + ")",
                heap -> heap.setNumber(2, 3, n), ThreadHeap.EMPTY);
        }
    }
}

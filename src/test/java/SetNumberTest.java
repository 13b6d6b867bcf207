/** Promise 10: setNumber. */
public final class SetNumberTest {
    public static void main(String[] args) {
        givesTheObjectAnyNumber();
        isSeenThroughEveryHolder();
        refusesAnEmptyRegister();
        Due.wrongArguments("setNumber", "trn", (heap, a) -> heap.setNumber(a[0], a[1], a[2]),
            ThreadHeap.BAD_ARG);
        Due.end();
    }

    private static void givesTheObjectAnyNumber() {
        ThreadHeap heap = Due.fullHeap();
        for (int n : new int[] {0, 1, -1, -3, Integer.MAX_VALUE, Integer.MIN_VALUE}) {
            Due.answer("setNumber(0, 2, " + n + ")", heap.setNumber(0, 2, n), 0);
            Due.answer("number(0, 2)", heap.number(0, 2), n);
        }
        Due.answer("number(0, 1)", heap.number(0, 1), 2);
        Due.answer("number(0, 3)", heap.number(0, 3), 4);
        Due.answer("serial(0, 2)", heap.serial(0, 2), 3);
    }

    private static void isSeenThroughEveryHolder() {
        ThreadHeap heap = Due.busyHeap();
        Due.answer("setNumber(1, 2, 31)", heap.setNumber(1, 2, 31), 0);
        Due.answer("number(2, 3)", heap.number(2, 3), 31);
        heap.load(2, 0, 3, 0);
        Due.answer("number(2, 0)", heap.number(2, 0), 31);
    }

    private static void refusesAnEmptyRegister() {
        Due.refused(Due.busyHeap(), "setNumber(0, 2, 5)", heap -> heap.setNumber(0, 2, 5), ThreadHeap.EMPTY);
        Due.refused(new ThreadHeap(4), "setNumber(2, 3, 5)", heap -> heap.setNumber(2, 3, 5), ThreadHeap.EMPTY);
    }
}

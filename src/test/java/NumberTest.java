/** Promise 11: number. */
public final class NumberTest {
    public static void main(String[] args) {
        tellsTheObjectsNumber();
        tellsZeroForAnEmptyRegister();
        tellsZeroForAWrongArgument();
        Calls.testsItsArguments("number");
        Due.end();
    }

    private static ThreadHeap withNumbersFrom100() {
        ThreadHeap heap = new ThreadHeap(16);
        for (int i = 0; i < 12; i++) {
            heap.make(i / 4, i % 4, 100 + i);
        }
        return heap;
    }

    private static void tellsTheObjectsNumber() {
        ThreadHeap heap = withNumbersFrom100();
        for (int i = 0; i < 12; i++) {
            Due.answer("number(" + i / 4 + ", " + i % 4 + ")", heap.number(i / 4, i % 4), 100 + i);
        }
        for (int n : new int[] {0, -1, -3, Integer.MIN_VALUE, Integer.MAX_VALUE}) {
            heap.make(2, 0, n);
            Due.answer("number(2, 0)", heap.number(2, 0), n);
        }
    }

    // "0 if the register is empty"
    private static void tellsZeroForAnEmptyRegister() {
        ThreadHeap heap = Heaps.busy();
        heap.setNumber(2, 0, 7);
        Due.answer("number of a register that was dropped", heap.number(2, 0), 0);
        Due.answer("number of a register never used", heap.number(1, 3), 0);
        heap.load(0, 0, 0, 1);
        Due.answer("number of a register that got an empty field", heap.number(0, 0), 0);
        heap.get(2, 3, 1);
        Due.answer("number of a register that got an empty global", heap.number(2, 3), 0);
        heap.copy(0, 1, 2);
        Due.answer("number of a register that got an empty register", heap.number(0, 1), 0);
    }

    // "or an argument is out of range": 0, not BAD_ARG, though every register tells another number.
    private static void tellsZeroForAWrongArgument() {
        ThreadHeap heap = withNumbersFrom100();
        for (int wrong : new int[] {-1, Integer.MIN_VALUE, Integer.MAX_VALUE}) {
            Due.answer("number(" + wrong + ", 0)", heap.number(wrong, 0), 0);
            Due.answer("number(0, " + wrong + ")", heap.number(0, wrong), 0);
            Due.answer("number(" + wrong + ", " + wrong + ")", heap.number(wrong, wrong), 0);
        }
        Due.answer("number(3, 0)", heap.number(3, 0), 0);
        Due.answer("number(0, 4)", heap.number(0, 4), 0);
        Due.answer("number(-1, 4)", heap.number(-1, 4), 0);
        Due.answer("number(3, -4)", heap.number(3, -4), 0);
    }
}

/** Promise 9: swap. */
public final class SwapTest {
    public static void main(String[] args) {
        exchangesAnyTwoRegisters();
        exchangesAnObjectAndAnEmptyRegister();
        exchangesTwoEmptyRegisters();
        exchangesARegisterWithItself();
        Calls.testsItsArguments("swap");
        Due.end();
    }

    private static void exchangesAnyTwoRegisters() {
        for (int first = 0; first < 12; first++) {
            for (int second = 0; second < 12; second++) {
                exchanges(first, second);
            }
        }
    }

    private static void exchanges(int first, int second) {
        ThreadHeap heap = Heaps.busy();
        int[] want = Heaps.view(heap);
        for (int i = 0; i < 4; i++) {
            int one = want[4 * first + i];
            want[4 * first + i] = want[4 * second + i];
            want[4 * second + i] = one;
        }
        String call = "swap(" + first / 4 + ", " + first % 4 + ", " + second / 4 + ", " + second % 4 + ")";
        Due.answer(call, heap.swap(first / 4, first % 4, second / 4, second % 4), 0);
        Due.same("after " + call, Heaps.view(heap), want);
    }

    // "(an empty one counts as well)"
    private static void exchangesAnObjectAndAnEmptyRegister() {
        ThreadHeap heap = Heaps.full();
        Due.answer("swap(0, 1, 2, 3)", heap.swap(0, 1, 2, 3), 0);
        Due.answer("serial(0, 1)", heap.serial(0, 1), 0);
        Due.answer("serial(2, 3)", heap.serial(2, 3), 2);
        Due.answer("swap(0, 1, 2, 3) again", heap.swap(0, 1, 2, 3), 0);
        Due.answer("serial(0, 1)", heap.serial(0, 1), 2);
        Due.answer("serial(2, 3)", heap.serial(2, 3), 0);
        Due.answer("live", heap.live(), 4);
    }

    // "(an empty one counts as well)": and so do two.
    private static void exchangesTwoEmptyRegisters() {
        Due.changesNothing(Heaps::full, "swap(1, 0, 2, 3)", heap -> heap.swap(1, 0, 2, 3), 0);
        Due.changesNothing(Heaps::busy, "swap(1, 0, 1, 1)", heap -> heap.swap(1, 0, 1, 1), 0);
    }

    private static void exchangesARegisterWithItself() {
        for (int i = 0; i < 12; i++) {
            int t = i / 4;
            int r = i % 4;
            Due.changesNothing(Heaps::busy, "swap of a register with itself",
                heap -> heap.swap(t, r, t, r), 0);
        }
    }
}

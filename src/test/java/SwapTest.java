/** Promise 9: swap. */
public final class SwapTest {
    public static void main(String[] args) {
        exchangesAnyTwoRegisters();
        Due.wrongArguments("swap", "trtr", (heap, a) -> heap.swap(a[0], a[1], a[2], a[3]),
            ThreadHeap.BAD_ARG);
        Due.end();
    }

    private static void exchangesAnyTwoRegisters() {
        for (int first = 0; first < 12; first++) {
            for (int second = 0; second < 12; second++) {
                exchanges(first, second);
            }
        }
    }

    // The busy heap has full and empty registers, so all four kinds of pairs come.
    private static void exchanges(int first, int second) {
        ThreadHeap heap = Due.busyHeap();
        int[] want = Due.view(heap);
        for (int i = 0; i < 4; i++) {
            int one = want[4 * first + i];
            want[4 * first + i] = want[4 * second + i];
            want[4 * second + i] = one;
        }
        String call = "swap(" + first / 4 + ", " + first % 4 + ", " + second / 4 + ", " + second % 4 + ")";
        Due.answer(call, heap.swap(first / 4, first % 4, second / 4, second % 4), 0);
        Due.same("after " + call, Due.view(heap), want);
    }
}

/** Promise 17: rest. It changes nothing that any call answers, whatever stands before and after it. */
public final class RestTest {
    private static final int[] STEPS = {
        Integer.MIN_VALUE, -1, 0, 1, 2, 3, 4, 5, 15, 16, 17, 62, 63, 64, 1000, Integer.MAX_VALUE};

    public static void main(String[] args) {
        for (int k : STEPS) {
            changesNothing(k);
            leavesTheSameRoom(k);
            keepsWhatMovesBetweenRests(k);
            keepsWhatIsMadeBetweenRests(k);
        }
        Due.end();
    }

    private static void changesNothing(int k) {
        ThreadHeap[] starts = {new ThreadHeap(4), Due.busyHeap(), Due.fullHeap()};
        for (ThreadHeap heap : starts) {
            int[] before = Due.view(heap);
            heap.rest(k);
            Due.same("after rest(" + k + ")", Due.view(heap), before);
            heap.rest(k);
            heap.rest(k);
            Due.same("after rest(" + k + ") thrice", Due.view(heap), before);
        }
    }

    private static void leavesTheSameRoom(int k) {
        String after = " after rest(" + k + ")";
        ThreadHeap heap = Due.busyHeap();
        heap.rest(k);
        Due.answer("make" + after, heap.make(1, 0, 50), 5);
        heap.rest(k);
        Due.answer("make past the room" + after, heap.make(1, 1, 60), ThreadHeap.FULL);
        heap.drop(1, 2);
        heap.drop(2, 3);
        heap.rest(k);
        Due.answer("make" + after, heap.make(1, 1, 60), 6);
        Due.answer("make past the room" + after, heap.make(1, 2, 70), ThreadHeap.FULL);
        Due.answer("live" + after, heap.live(), 4);
    }

    // The one object goes from place to place, each time before the next rest and with its old
    // place emptied, while the other room is filled and lost again.
    private static void keepsWhatMovesBetweenRests(int k) {
        ThreadHeap heap = new ThreadHeap(4);
        heap.make(0, 0, 11);
        heap.make(1, 0, 22);
        for (int i = 0; i < 12; i++) {
            heap.put(0, 0, 0);
            heap.drop(0, 0);
            heap.rest(k);
            heap.get(1, 1, 0);
            heap.put(2, 0, 0);
            heap.make(2, 1, i);
            heap.rest(k);
            heap.store(1, 0, i % 2, 1);
            heap.drop(1, 1);
            heap.make(2, 1, i);
            heap.rest(k);
            heap.load(1, 2, 0, i % 2);
            heap.store(1, 0, i % 2, 3);
            heap.make(2, 1, i);
            heap.rest(k);
            heap.swap(1, 2, 0, 0);
            Due.answer("number after rest(" + k + ")", heap.number(0, 0), 11);
            Due.answer("serial after rest(" + k + ")", heap.serial(0, 0), 1);
            Due.answer("made after rest(" + k + ")", heap.made(), 5 + 3 * i);
            Due.answer("live after rest(" + k + ")", heap.live(), 3);
        }
    }

    private static void keepsWhatIsMadeBetweenRests(int k) {
        ThreadHeap heap = new ThreadHeap(5);
        for (int i = 1; i <= 40; i++) {
            heap.rest(k);
            Due.answer("make", heap.make(0, i % 4, i), i);
            heap.rest(k);
            Due.answer("number of the new one", heap.number(0, i % 4), i);
            if (i > 3) {
                Due.answer("number of the oldest one", heap.number(0, (i + 1) % 4), i - 3);
            }
        }
    }
}

import java.util.function.Supplier;

/**
 * Promise 17: rest. Its steps can't be seen, so what is tested is that no number of them changes
 * what any call answers, whatever stands before and after.
 */
public final class RestTest {
    public static void main(String[] args) {
        doesNothingBelowOne();
        changesNothingFromOneTo63();
        takesMoreThan63();
        Due.end();
    }

    // "none if k < 1"
    private static void doesNothingBelowOne() {
        for (int k : new int[] {0, -1, -63, Integer.MIN_VALUE + 1, Integer.MIN_VALUE}) {
            changesNoAnswer(k);
        }
    }

    // "they change nothing that any call answers"
    private static void changesNothingFromOneTo63() {
        for (int k = 1; k <= 63; k++) {
            changesNoAnswer(k);
        }
    }

    // "at most 63 if k is greater"
    private static void takesMoreThan63() {
        for (int k : new int[] {64, 65, 127, 128, 1000, Integer.MAX_VALUE - 1, Integer.MAX_VALUE}) {
            changesNoAnswer(k);
        }
    }

    private static void changesNoAnswer(int k) {
        changesNothing(k);
        leavesTheSameRoom(k);
        keepsWhatMovesBetweenRests(k);
        keepsWhatIsMadeBetweenRests(k);
    }

    private static void changesNothing(int k) {
        for (Supplier<ThreadHeap> start : Heaps.STARTS) {
            Due.changesNothing(start, "rest(" + k + ")", heap -> rest(heap, k, 1), 0);
            Due.changesNothing(start, "rest(" + k + ") thrice", heap -> rest(heap, k, 3), 0);
        }
    }

    private static int rest(ThreadHeap heap, int k, int times) {
        for (int i = 0; i < times; i++) {
            heap.rest(k);
        }
        return 0;
    }

    private static void leavesTheSameRoom(int k) {
        String after = " after rest(" + k + ")";
        ThreadHeap heap = Heaps.busy();
        heap.rest(k);
        Due.answer("make" + after, heap.make(1, 0, 50), 5);
        heap.rest(k);
        Due.answer("make past the room" + after, heap.make(1, 1, 60), ThreadHeap.FULL);
        heap.drop(1, 2);
        heap.drop(2, 3);
        heap.rest(k);
        Due.answer("make" + after, heap.make(1, 1, 60), 6);
        Due.answer("make past the room" + after, heap.make(1, 2, 70), ThreadHeap.FULL);
        Due.answer("live" + after, heap.live(), 4);
    }

    // The one object goes from place to place, each time before the next rest and with its old
    // place emptied, while the other room is filled and lost again.
    private static void keepsWhatMovesBetweenRests(int k) {
        ThreadHeap heap = new ThreadHeap(4);
        heap.make(0, 0, 11);
        heap.make(1, 0, 22);
        for (int i = 0; i < 12; i++) {
            heap.put(0, 0, 0);
            heap.drop(0, 0);
            heap.rest(k);
            heap.get(1, 1, 0);
            heap.put(2, 0, 0);
            heap.make(2, 1, i);
            heap.rest(k);
            heap.store(1, 0, i % 2, 1);
            heap.drop(1, 1);
            heap.make(2, 1, i);
            heap.rest(k);
            heap.load(1, 2, 0, i % 2);
            heap.store(1, 0, i % 2, 3);
            heap.make(2, 1, i);
            heap.rest(k);
            heap.swap(1, 2, 0, 0);
            Due.answer("number after rest(" + k + ")", heap.number(0, 0), 11);
            Due.answer("serial after rest(" + k + ")", heap.serial(0, 0), 1);
            Due.answer("made after rest(" + k + ")", heap.made(), 5 + 3 * i);
            Due.answer("live after rest(" + k + ")", heap.live(), 3);
        }
    }

    private static void keepsWhatIsMadeBetweenRests(int k) {
        ThreadHeap heap = new ThreadHeap(5);
        for (int i = 1; i <= 40; i++) {
            heap.rest(k);
            Due.answer("make", heap.make(0, i % 4, i), i);
            heap.rest(k);
            Due.answer("number of the new one", heap.number(0, i % 4), i);
            if (i > 3) {
                Due.answer("number of the oldest one", heap.number(0, (i + 1) % 4), i - 3);
            }
        }
    }
}

import java.util.function.Supplier;

/** Promise 18: pause. */
public final class PauseTest {
    public static void main(String[] args) {
        answersZeroAndChangesNothing();
        refusesAWrongThread();
        leavesTheSameRoom();
        threadsGoOnAfterAPause();
        Calls.testsItsArguments("pause");
        Due.end();
    }

    // "otherwise 0"
    private static void answersZeroAndChangesNothing() {
        for (int t = 0; t < 3; t++) {
            int thread = t;
            for (Supplier<ThreadHeap> start : Heaps.STARTS) {
                Due.changesNothing(start, "pause(" + t + ")", heap -> heap.pause(thread), 0);
            }
            ThreadHeap heap = Heaps.busy();
            Due.answer("pause(" + t + ")", heap.pause(t), 0);
            Due.answer("pause(" + t + ") again", heap.pause(t), 0);
        }
    }

    // "BAD_ARG if t is not 0 to 2"
    private static void refusesAWrongThread() {
        for (int t : new int[] {-1, 3, 4, Integer.MIN_VALUE, Integer.MAX_VALUE}) {
            Due.changesNothing(Heaps::busy, "pause(" + t + ")", heap -> heap.pause(t), ThreadHeap.BAD_ARG);
        }
    }

    private static void leavesTheSameRoom() {
        ThreadHeap heap = Heaps.busy();
        pauseAll(heap);
        Due.answer("make after pauses", heap.make(1, 0, 50), 5);
        pauseAll(heap);
        Due.answer("make past the room", heap.make(1, 1, 60), ThreadHeap.FULL);
        heap.drop(1, 0);
        pauseAll(heap);
        Due.answer("make after a drop", heap.make(1, 1, 60), 6);
    }

    // Between the pauses of the three threads an object goes from a field that is emptied into
    // a register of a thread that has paused already.
    private static void threadsGoOnAfterAPause() {
        ThreadHeap heap = new ThreadHeap(4);
        heap.make(0, 0, 1);
        heap.make(0, 1, 2);
        heap.store(0, 0, 0, 1);
        heap.drop(0, 1);
        for (int i = 0; i < 10; i++) {
            heap.rest(1);
            heap.pause(i % 3);
            heap.load(0, 1, 0, 0);
            heap.store(0, 0, 0, 2);
            heap.pause((i + 1) % 3);
            heap.rest(i);
            heap.swap(0, 1, 2, i % 4);
            heap.pause((i + 2) % 3);
            heap.rest(63);
            heap.make(1, 0, i);
            Due.answer("number after pauses", heap.number(2, i % 4), 2);
            Due.answer("live after pauses", heap.live(), 3);
            heap.swap(0, 1, 2, i % 4);
            heap.store(0, 0, 0, 1);
            heap.drop(0, 1);
        }
        Due.answer("serialIn at the end", heap.serialIn(0, 0, 0), 2);
    }

    private static void pauseAll(ThreadHeap heap) {
        for (int t = 0; t < 3; t++) {
            Due.answer("pause", heap.pause(t), 0);
        }
    }
}

/** Promise 18: pause. */
public final class PauseTest {
    public static void main(String[] args) {
        for (int t = 0; t < 3; t++) {
            answersZeroAndChangesNothing(t);
        }
        leavesTheSameRoom();
        threadsGoOnAfterAPause();
        Due.wrongArguments("pause", "t", (heap, a) -> heap.pause(a[0]), ThreadHeap.BAD_ARG);
        Due.end();
    }

    private static void answersZeroAndChangesNothing(int t) {
        ThreadHeap[] starts = {new ThreadHeap(4), Due.busyHeap(), Due.fullHeap()};
        for (ThreadHeap heap : starts) {
            int[] before = Due.view(heap);
            Due.answer("pause(" + t + ")", heap.pause(t), 0);
            Due.answer("pause(" + t + ") again", heap.pause(t), 0);
            Due.same("after pause(" + t + ")", Due.view(heap), before);
        }
    }

    private static void leavesTheSameRoom() {
        ThreadHeap heap = Due.busyHeap();
        pauseAll(heap);
        Due.answer("make after pauses", heap.make(1, 0, 50), 5);
        pauseAll(heap);
        Due.answer("make past the room", heap.make(1, 1, 60), ThreadHeap.FULL);
        heap.drop(1, 0);
        pauseAll(heap);
        Due.answer("make after a drop", heap.make(1, 1, 60), 6);
    }

    // Between the pauses of the three threads an object goes from a field that is emptied into
    // a register of a thread that has paused already.
    private static void threadsGoOnAfterAPause() {
        ThreadHeap heap = new ThreadHeap(4);
        heap.make(0, 0, 1);
        heap.make(0, 1, 2);
        heap.store(0, 0, 0, 1);
        heap.drop(0, 1);
        for (int i = 0; i < 10; i++) {
            heap.rest(1);
            heap.pause(i % 3);
            heap.load(0, 1, 0, 0);
            heap.store(0, 0, 0, 2);
            heap.pause((i + 1) % 3);
            heap.rest(i);
            heap.swap(0, 1, 2, i % 4);
            heap.pause((i + 2) % 3);
            heap.rest(63);
            heap.make(1, 0, i);
            Due.answer("number after pauses", heap.number(2, i % 4), 2);
            Due.answer("live after pauses", heap.live(), 3);
            heap.swap(0, 1, 2, i % 4);
            heap.store(0, 0, 0, 1);
            heap.drop(0, 1);
        }
        Due.answer("serialIn at the end", heap.serialIn(0, 0, 0), 2);
    }

    private static void pauseAll(ThreadHeap heap) {
        for (int t = 0; t < 3; t++) {
            Due.answer("pause", heap.pause(t), 0);
        }
    }
}

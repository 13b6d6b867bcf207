import java.util.ArrayList;
import java.util.List;
import java.util.function.Supplier;

/** Heaps for the tests to start from, and what can be seen of a heap. */
final class Heaps {
    static final List<Supplier<ThreadHeap>> STARTS =
        List.of(() -> new ThreadHeap(4), Heaps::busy, Heaps::full, Heaps::chain);

    private Heaps() {
    }

    /**
     * Room for 4, of which 3 are live: object 1 (number 10) in register 0 of thread 0 and in
     * global 0, object 2 (number 20) in register 1 of thread 0, object 3 (number 30) in
     * register 2 of thread 1 and register 3 of thread 2. Field 0 of 1 holds 2, field 1 of 2
     * holds 1, field 0 of 3 holds 3. Object 4 is not live any more.
     */
    static ThreadHeap busy() {
        ThreadHeap heap = new ThreadHeap(4);
        heap.make(0, 0, 10);
        heap.make(0, 1, 20);
        heap.store(0, 0, 0, 1);
        heap.store(0, 1, 1, 0);
        heap.put(0, 0, 0);
        heap.make(1, 2, 30);
        heap.store(1, 2, 0, 2);
        heap.put(1, 1, 2);
        heap.get(2, 3, 1);
        heap.put(1, 1, 0);
        heap.make(2, 0, 40);
        heap.drop(2, 0);
        return heap;
    }

    /** Room for 4, all live: objects 1 to 4 (numbers 1 to 4) in the registers of thread 0. */
    static ThreadHeap full() {
        ThreadHeap heap = new ThreadHeap(4);
        for (int r = 0; r < 4; r++) {
            heap.make(0, r, r + 1);
        }
        return heap;
    }

    /**
     * Room for 4, all live, yet all registers are empty: global 1 holds object 1, whose field 0
     * holds 2, whose field 1 holds 3, whose field 0 holds 4 (numbers 1 to 4).
     */
    static ThreadHeap chain() {
        ThreadHeap heap = full();
        heap.store(0, 0, 0, 1);
        heap.store(0, 1, 1, 2);
        heap.store(0, 2, 0, 3);
        heap.put(0, 1, 0);
        for (int r = 0; r < 4; r++) {
            heap.drop(0, r);
        }
        return heap;
    }

    /**
     * Room as asked, and so many live objects (1 or more), numbers from 1 on: register 0 of
     * thread 0 alone holds the last one made, and field 0 of each object holds the one before.
     */
    static ThreadHeap withLive(int room, int objects) {
        ThreadHeap heap = new ThreadHeap(room);
        heap.make(0, 0, 1);
        for (int i = 2; i <= objects; i++) {
            heap.make(0, 1, i);
            heap.store(0, 1, 0, 0);
            heap.swap(0, 0, 0, 1);
            heap.drop(0, 1);
        }
        return heap;
    }

    /** All that can be seen of a heap without changing it, in 52 calls. */
    static int[] view(ThreadHeap heap) {
        int[] seen = new int[52];
        int next = 0;
        for (int t = 0; t < 3; t++) {
            for (int r = 0; r < 4; r++) {
                seen[next++] = heap.serial(t, r);
                seen[next++] = heap.number(t, r);
                seen[next++] = heap.serialIn(t, r, 0);
                seen[next++] = heap.serialIn(t, r, 1);
            }
        }
        seen[next++] = heap.serialOf(0);
        seen[next++] = heap.serialOf(1);
        seen[next++] = heap.made();
        seen[next] = heap.live();
        return seen;
    }

    /**
     * What a heap answers from now on: its view, then a run of calls that uses up the room that
     * is left, follows the fields and makes room again. The run changes the heap; it has fewer
     * than 300 calls.
     */
    static int[] answersFromNowOn(ThreadHeap heap) {
        List<Integer> seen = new ArrayList<>();
        addView(seen, heap);
        for (int r = 0; r < 4; r++) {
            seen.add(heap.make(1, r, 50 + r));
        }
        addView(seen, heap);
        heap.get(0, 2, 0);
        heap.get(0, 3, 1);
        for (int f : new int[] {0, 1, 0}) {
            followFields(seen, heap, f);
        }
        heap.put(2, 0, 1);
        for (int r = 0; r < 4; r++) {
            heap.drop(1, r);
            seen.add(heap.make(2, r, 60 + r));
        }
        addView(seen, heap);
        return seen.stream().mapToInt(Integer::intValue).toArray();
    }

    private static void addView(List<Integer> seen, ThreadHeap heap) {
        for (int answer : view(heap)) {
            seen.add(answer);
        }
    }

    private static void followFields(List<Integer> seen, ThreadHeap heap, int f) {
        for (int t = 0; t < 2; t++) {
            for (int r = 0; r < 4; r++) {
                seen.add(heap.load(t, r, r, f));
                seen.add(heap.serial(t, r));
                seen.add(heap.number(t, r));
            }
        }
    }
}

/** Promise 15: made. */
public final class MadeTest {
    public static void main(String[] args) {
        countsEveryObjectMade();
        leavesOutRefusedMakes();
        countsNothingElse();
        changesNothing();
        Due.end();
    }

    private static void countsEveryObjectMade() {
        ThreadHeap heap = new ThreadHeap(4);
        for (int i = 0; i < 100; i++) {
            Due.answer("made", heap.made(), i);
            heap.make(i % 3, 0, i);
        }
        Due.answer("made", heap.made(), 100);
        heap.drop(0, 0);
        heap.drop(1, 0);
        heap.drop(2, 0);
        Due.answer("made when none is live", heap.made(), 100);
    }

    // "A refused call ... changes nothing": FULL and BAD_ARG make no object.
    private static void leavesOutRefusedMakes() {
        ThreadHeap heap = Heaps.full();
        heap.make(0, 0, 5);
        heap.make(1, 0, 5);
        Due.answer("made after FULL", heap.made(), 4);
        heap.make(3, 0, 5);
        heap.make(0, -1, 5);
        Due.answer("made after BAD_ARG", heap.made(), 4);
        heap.drop(0, 0);
        heap.make(0, 0, 5);
        Due.answer("made after one more", heap.made(), 5);
    }

    private static void countsNothingElse() {
        ThreadHeap heap = Heaps.busy();
        heap.copy(0, 2, 0);
        heap.load(0, 3, 1, 1);
        heap.store(0, 0, 1, 0);
        heap.put(0, 1, 1);
        heap.get(1, 1, 0);
        heap.swap(0, 0, 2, 2);
        heap.setNumber(0, 1, 5);
        heap.drop(0, 1);
        heap.rest(63);
        heap.pause(0);
        Due.answer("made after the other calls", heap.made(), 4);
    }

    private static void changesNothing() {
        Due.changesNothing(() -> new ThreadHeap(4), "made", ThreadHeap::made, 0);
        Due.changesNothing(Heaps::busy, "made", ThreadHeap::made, 4);
    }
}

/** Promise 15: made. */
public final class MadeTest {
    public static void main(String[] args) {
        countsEveryObjectMade();
        leavesOutRefusedMakes();
        countsNothingElse();
        Due.end();
    }

    private static void countsEveryObjectMade() {
        ThreadHeap heap = new ThreadHeap(4);
        for (int i = 0; i < 100; i++) {
            Due.answer("made", heap.made(), i);
            heap.make(i % 3, 0, i);
        }
        Due.answer("made", heap.made(), 100);
    }

    private static void leavesOutRefusedMakes() {
        ThreadHeap heap = Due.fullHeap();
        heap.make(0, 0, 5);
        heap.make(1, 0, 5);
        heap.make(3, 0, 5);
        heap.make(0, -1, 5);
        Due.answer("made after refused makes", heap.made(), 4);
        heap.drop(0, 0);
        heap.make(0, 0, 5);
        Due.answer("made after one more", heap.made(), 5);
    }

    private static void countsNothingElse() {
        ThreadHeap heap = Due.busyHeap();
        heap.copy(0, 2, 0);
        heap.load(0, 3, 1, 1);
        heap.store(0, 0, 1, 0);
        heap.put(0, 1, 1);
        heap.get(1, 1, 0);
        heap.swap(0, 0, 2, 2);
        heap.setNumber(0, 1, 5);
        heap.drop(0, 1);
        heap.rest(63);
        heap.pause(0);
        Due.answer("made after the other calls", heap.made(), 4);
    }
}

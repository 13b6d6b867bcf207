/** Promise 16: live. */
public final class LiveTest {
    public static void main(String[] args) {
        countsWhatEachRegisterHolds();
        countsWhatGlobalsHold();
        countsAnObjectOnce();
        countsALongChain();
        countsATree();
        losesARing();
        losesWhatOnlyALostObjectHolds();
        goesFromNoneToTheRoom();
        leavesOutRefusedMakes();
        changesNothing();
        Due.end();
    }

    private static void countsWhatEachRegisterHolds() {
        ThreadHeap heap = new ThreadHeap(16);
        for (int i = 0; i < 12; i++) {
            heap.make(i / 4, i % 4, i);
            Due.answer("live after makes", heap.live(), i + 1);
        }
        for (int i = 0; i < 12; i++) {
            heap.drop(i / 4, i % 4);
            Due.answer("live after drops", heap.live(), 11 - i);
        }
    }

    private static void countsWhatGlobalsHold() {
        ThreadHeap heap = new ThreadHeap(4);
        for (int g = 0; g < 2; g++) {
            heap.make(1, 1, g);
            heap.put(1, g, 1);
            heap.drop(1, 1);
            Due.answer("live in globals", heap.live(), g + 1);
        }
        heap.put(0, 0, 0);
        Due.answer("live in one global", heap.live(), 1);
        heap.put(0, 1, 0);
        Due.answer("live in no global", heap.live(), 0);
    }

    private static void countsAnObjectOnce() {
        ThreadHeap heap = new ThreadHeap(4);
        heap.make(0, 0, 1);
        heap.copy(0, 1, 0);
        heap.put(0, 0, 0);
        heap.put(0, 1, 0);
        heap.get(1, 0, 0);
        heap.store(0, 0, 0, 0);
        heap.store(0, 0, 1, 1);
        Due.answer("live of one object held often", heap.live(), 1);
    }

    private static void countsALongChain() {
        for (int f = 0; f < 2; f++) {
            ThreadHeap heap = new ThreadHeap(16);
            for (int i = 0; i < 16; i++) {
                heap.make(0, 0, i);
                heap.store(0, 0, f, 1);
                heap.copy(0, 1, 0);
                heap.drop(0, 0);
            }
            for (int i = 16; i > 0; i--) {
                Due.answer("live of a chain", heap.live(), i);
                heap.load(0, 1, 1, f);
            }
            Due.answer("live after the chain", heap.live(), 0);
        }
    }

    private static void countsATree() {
        ThreadHeap heap = new ThreadHeap(16);
        for (int i = 0; i < 4; i++) {
            makeBranch(heap, 0);
            heap.swap(0, 0, 1, i);
        }
        Due.answer("live of four branches", heap.live(), 12);
        heap.make(1, 0, 0);
        Due.answer("live with one branch lost", heap.live(), 10);
        heap.store(1, 0, 0, 1);
        heap.store(1, 0, 1, 2);
        heap.drop(1, 1);
        heap.drop(1, 2);
        heap.drop(1, 3);
        Due.answer("live of the tree", heap.live(), 7);
        heap.load(1, 0, 0, 1);
        Due.answer("live of one branch alone", heap.live(), 3);
    }

    private static void makeBranch(ThreadHeap heap, int t) {
        for (int r = 0; r < 3; r++) {
            heap.make(t, r, r);
        }
        heap.store(t, 0, 0, 1);
        heap.store(t, 0, 1, 2);
        heap.drop(t, 1);
        heap.drop(t, 2);
    }

    private static void losesARing() {
        ThreadHeap heap = Heaps.full();
        for (int r = 0; r < 4; r++) {
            heap.store(0, r, 0, (r + 1) % 4);
            heap.store(0, r, 1, r);
        }
        for (int r = 0; r < 3; r++) {
            heap.drop(0, r);
            Due.answer("live of a ring", heap.live(), 4);
        }
        heap.drop(0, 3);
        Due.answer("live of a ring nobody reaches", heap.live(), 0);
    }

    private static void losesWhatOnlyALostObjectHolds() {
        for (int f = 0; f < 2; f++) {
            ThreadHeap heap = Heaps.full();
            heap.store(0, 0, f, 1);
            heap.store(0, 2, f, 3);
            heap.drop(0, 1);
            heap.drop(0, 2);
            Due.answer("live with an object that a lost one holds as well", heap.live(), 3);
            heap.drop(0, 0);
            Due.answer("live after the holder of another one is lost", heap.live(), 1);
        }
    }

    private static void goesFromNoneToTheRoom() {
        for (int room = 4; room <= 16; room++) {
            Due.answer("live of a new heap", new ThreadHeap(room).live(), 0);
            for (int objects = 1; objects <= room; objects++) {
                Due.answer("live", Heaps.withLive(room, objects).live(), objects);
            }
        }
    }

    private static void leavesOutRefusedMakes() {
        ThreadHeap heap = Heaps.full();
        heap.make(1, 0, 5);
        Due.answer("live after FULL", heap.live(), 4);
        ThreadHeap busy = Heaps.busy();
        busy.make(3, 0, 5);
        Due.answer("live after BAD_ARG", busy.live(), 3);
    }

    private static void changesNothing() {
        Due.changesNothing(() -> new ThreadHeap(4), "live of a new heap", ThreadHeap::live, 0);
        Due.changesNothing(Heaps::busy, "live of a busy heap", ThreadHeap::live, 3);
        Due.changesNothing(Heaps::full, "live of a full heap", ThreadHeap::live, 4);
        ThreadHeap heap = Heaps.busy();
        for (int i = 0; i < 20; i++) {
            Due.answer("live asked again", heap.live(), 3);
        }
    }
}

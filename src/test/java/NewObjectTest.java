/** Promise 1: a new object. */
public final class NewObjectTest {
    public static void main(String[] args) {
        startsEmpty();
        hasTheRoomAskedFor();
        roomBelowFourBecomesFour();
        roomAboveSixteenBecomesSixteen();
        objectsShareNothing();
        Due.end();
    }

    // "All registers and globals are empty; no object was made yet."
    private static void startsEmpty() {
        for (int room : new int[] {Integer.MIN_VALUE, 0, 4, 10, 16, Integer.MAX_VALUE}) {
            ThreadHeap heap = new ThreadHeap(room);
            String of = " of a new ThreadHeap(" + room + ")";
            for (int i = 0; i < 12; i++) {
                Due.answer("serial" + of, heap.serial(i / 4, i % 4), 0);
                Due.answer("number" + of, heap.number(i / 4, i % 4), 0);
                Due.answer("serialIn" + of, heap.serialIn(i / 4, i % 4, 0), ThreadHeap.EMPTY);
                Due.answer("serialIn" + of, heap.serialIn(i / 4, i % 4, 1), ThreadHeap.EMPTY);
            }
            Due.answer("serialOf(0)" + of, heap.serialOf(0), 0);
            Due.answer("serialOf(1)" + of, heap.serialOf(1), 0);
            Due.answer("made" + of, heap.made(), 0);
            Due.answer("live" + of, heap.live(), 0);
        }
    }

    // "The heap has room for R live objects."
    private static void hasTheRoomAskedFor() {
        for (int room = 4; room <= 16; room++) {
            hasRoomFor(room, room);
        }
    }

    // "below 4 it becomes 4"
    private static void roomBelowFourBecomesFour() {
        for (int room : new int[] {3, 2, 1, 0, -1, -16, Integer.MIN_VALUE + 1, Integer.MIN_VALUE}) {
            hasRoomFor(room, 4);
        }
    }

    // "above 16 it becomes 16"
    private static void roomAboveSixteenBecomesSixteen() {
        for (int room : new int[] {17, 18, 32, 1000, Integer.MAX_VALUE - 1, Integer.MAX_VALUE}) {
            hasRoomFor(room, 16);
        }
    }

    private static void hasRoomFor(int room, int objects) {
        String of = " of ThreadHeap(" + room + ")";
        ThreadHeap heap = Heaps.withLive(room, objects - 1);
        Due.answer("live" + of, heap.live(), objects - 1);
        Due.answer("make of the last object" + of, heap.make(0, 1, 0), objects);
        Due.answer("live" + of, heap.live(), objects);
        Due.answer("make past the room" + of, heap.make(0, 2, 0), ThreadHeap.FULL);
        Due.answer("live" + of, heap.live(), objects);
    }

    private static void objectsShareNothing() {
        int[] before = Heaps.view(Heaps.busy());
        ThreadHeap one = Heaps.busy();
        ThreadHeap two = Heaps.full();
        two.put(0, 0, 3);
        two.setNumber(0, 0, 77);
        Due.same("a heap beside another one", Heaps.view(one), before);
    }
}

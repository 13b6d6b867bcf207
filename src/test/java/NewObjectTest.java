/** Promise 1: a new object. */
public final class NewObjectTest {
    public static void main(String[] args) {
        int[][] roomsAndDue = {
            {Integer.MIN_VALUE, 4}, {-1, 4}, {0, 4}, {3, 4}, {4, 4}, {5, 5}, {10, 10},
            {15, 15}, {16, 16}, {17, 16}, {1000, 16}, {Integer.MAX_VALUE, 16}};
        for (int[] pair : roomsAndDue) {
            isEmpty(pair[0]);
            hasRoomFor(pair[0], pair[1]);
        }
        objectsShareNothing();
        Due.end();
    }

    private static void isEmpty(int room) {
        ThreadHeap heap = new ThreadHeap(room);
        String of = "of a new ThreadHeap(" + room + ")";
        for (int t = 0; t < 3; t++) {
            for (int r = 0; r < 4; r++) {
                Due.answer("serial " + of, heap.serial(t, r), 0);
                Due.answer("number " + of, heap.number(t, r), 0);
                Due.answer("serialIn " + of, heap.serialIn(t, r, 0), ThreadHeap.EMPTY);
                Due.answer("serialIn " + of, heap.serialIn(t, r, 1), ThreadHeap.EMPTY);
            }
        }
        Due.answer("serialOf(0) " + of, heap.serialOf(0), 0);
        Due.answer("serialOf(1) " + of, heap.serialOf(1), 0);
        Due.answer("made " + of, heap.made(), 0);
        Due.answer("live " + of, heap.live(), 0);
    }

    private static void hasRoomFor(int room, int objects) {
        ThreadHeap heap = new ThreadHeap(room);
        String of = " of ThreadHeap(" + room + ")";
        for (int i = 1; i <= objects; i++) {
            Due.answer("make number " + i + of, heap.make(0, 0, i), i);
            heap.store(0, 0, 0, 1);
            heap.copy(0, 1, 0);
        }
        Due.answer("live" + of, heap.live(), objects);
        Due.answer("make past the room" + of, heap.make(0, 2, 0), ThreadHeap.FULL);
    }

    private static void objectsShareNothing() {
        int[] before = Due.view(Due.busyHeap());
        ThreadHeap one = Due.busyHeap();
        ThreadHeap two = Due.fullHeap();
        two.put(0, 0, 3);
        two.setNumber(0, 0, 77);
        Due.same("a heap beside another one", Due.view(one), before);
    }
}

/** Promise 5: load. */
public final class LoadTest {
    public static void main(String[] args) {
        getsWhatTheFieldHolds();
        emptiesTheRegisterForAnEmptyField();
        loadsIntoItsOwnRegister();
        loadsAnObjectThatHoldsItself();
        refusesAnEmptyRegister();
        Due.wrongArguments("load", "trrf", (heap, a) -> heap.load(a[0], a[1], a[2], a[3]),
            ThreadHeap.BAD_ARG);
        Due.end();
    }

    private static void getsWhatTheFieldHolds() {
        ThreadHeap heap = Due.busyHeap();
        Due.answer("load(0, 2, 0, 0)", heap.load(0, 2, 0, 0), 0);
        Due.answer("serial", heap.serial(0, 2), 2);
        Due.answer("load(0, 3, 1, 1)", heap.load(0, 3, 1, 1), 0);
        Due.answer("serial", heap.serial(0, 3), 1);
        heap.setNumber(0, 2, 22);
        Due.answer("number of the very object", heap.number(0, 1), 22);
        Due.answer("the field still holds", heap.serialIn(0, 0, 0), 2);
        Due.answer("live", heap.live(), 3);
    }

    private static void emptiesTheRegisterForAnEmptyField() {
        ThreadHeap heap = Due.busyHeap();
        Due.answer("load(0, 1, 0, 1)", heap.load(0, 1, 0, 1), 0);
        Due.answer("serial", heap.serial(0, 1), 0);
        Due.answer("serial of the source", heap.serial(0, 0), 1);
    }

    private static void loadsIntoItsOwnRegister() {
        ThreadHeap heap = Due.busyHeap();
        Due.answer("load(0, 0, 0, 0)", heap.load(0, 0, 0, 0), 0);
        Due.answer("serial", heap.serial(0, 0), 2);
        Due.answer("load(0, 0, 0, 0)", heap.load(0, 0, 0, 0), 0);
        Due.answer("serial", heap.serial(0, 0), 0);
        Due.answer("load(0, 0, 0, 0)", heap.load(0, 0, 0, 0), ThreadHeap.EMPTY);
    }

    private static void loadsAnObjectThatHoldsItself() {
        ThreadHeap heap = Due.busyHeap();
        Due.answer("load(1, 2, 2, 0)", heap.load(1, 2, 2, 0), 0);
        Due.answer("serial", heap.serial(1, 2), 3);
    }

    private static void refusesAnEmptyRegister() {
        Due.refused(Due.busyHeap(), "load(0, 0, 2, 0)", heap -> heap.load(0, 0, 2, 0), ThreadHeap.EMPTY);
        Due.refused(Due.busyHeap(), "load(1, 2, 3, 1)", heap -> heap.load(1, 2, 3, 1), ThreadHeap.EMPTY);
        Due.refused(new ThreadHeap(4), "load(2, 0, 0, 0)", heap -> heap.load(2, 0, 0, 0), ThreadHeap.EMPTY);
    }
}

import java.util.function.Supplier;

/** The sentences of the document that hold for all calls: its first part and its terms. */
public final class TermsTest {
    private static final int BAD_ARG = ThreadHeap.BAD_ARG;
    private static final int LAST_CALL = 512;

    public static void main(String[] args) {
        answersUpToTheLastCall();
        refusesUpToTheLastCall();
        anObjectHoldsItself();
        serialNumbersStartAtOne();
        hasTwelveRegistersAndTwoGlobals();
        holdersHoldTheVeryObject();
        aRegisterKeepsAnObjectLive();
        aGlobalKeepsAnObjectLive();
        aFieldOfALiveObjectKeepsAnObjectLive();
        whatIsNotLiveIsNeverSeenAgain();
        housekeepingChangesNothing();
        testsArgumentsBeforeEmpty();
        testsArgumentsBeforeFull();
        numberAnswersZeroInstead();
        neverThrows();
        refusedCallsChangeNothing();
        askingChangesNothing();
        Due.end();
    }

    // "An object is used for at most 512 calls after it has been made"
    private static void answersUpToTheLastCall() {
        ThreadHeap heap = new ThreadHeap(4);
        for (int call = 1; call <= LAST_CALL; call++) {
            Due.answer("make as call " + call, heap.make(1, 2, call), call);
        }
        ThreadHeap other = new ThreadHeap(16);
        for (int call = 1; call < LAST_CALL; call++) {
            other.make(call % 3, call % 4, call);
        }
        Due.answer("live as the last call", other.live(), 12);
    }

    private static void refusesUpToTheLastCall() {
        ThreadHeap heap = Heaps.full();
        for (int call = 5; call < LAST_CALL; call++) {
            Due.answer("make as call " + call, heap.make(1, 2, call), ThreadHeap.FULL);
        }
        Due.answer("made as the last call", heap.made(), 4);
    }

    // "each empty or holding an object (also itself)"
    private static void anObjectHoldsItself() {
        for (int f = 0; f < 2; f++) {
            ThreadHeap heap = new ThreadHeap(4);
            heap.make(0, 0, 7);
            heap.store(0, 0, f, 0);
            Due.answer("serialIn of an object in itself", heap.serialIn(0, 0, f), 1);
            Due.answer("serialIn of the other field", heap.serialIn(0, 0, 1 - f), 0);
            for (int i = 0; i < 5; i++) {
                heap.load(0, 0, 0, f);
                Due.answer("number through its own field", heap.number(0, 0), 7);
            }
            Due.answer("live while a register holds it too", heap.live(), 1);
            heap.drop(0, 0);
            Due.answer("live while it alone holds itself", heap.live(), 0);
        }
    }

    // "the first object made has 1, the next 2, and so on"
    private static void serialNumbersStartAtOne() {
        ThreadHeap heap = new ThreadHeap(4);
        heap.make(3, 0, 9);
        for (int i = 1; i <= 100; i++) {
            Due.answer("make", heap.make(1, 1, 9), i);
            Due.answer("serial", heap.serial(1, 1), i);
        }
    }

    // "three THREADS 0 to 2, each with four REGISTERS 0 to 3, and two GLOBALS 0 and 1"
    private static void hasTwelveRegistersAndTwoGlobals() {
        ThreadHeap heap = new ThreadHeap(16);
        for (int g = 0; g < 2; g++) {
            heap.make(0, 0, 0);
            heap.put(0, g, 0);
        }
        for (int i = 0; i < 12; i++) {
            heap.make(i / 4, i % 4, 0);
        }
        Due.answer("live in all places", heap.live(), 14);
        for (int dropped = 1; dropped <= 12; dropped++) {
            heap.drop((dropped - 1) / 4, (dropped - 1) % 4);
            Due.answer("live in the other places", heap.live(), 14 - dropped);
            Due.answer("serialOf(0)", heap.serialOf(0), 1);
            Due.answer("serialOf(1)", heap.serialOf(1), 2);
            for (int i = 0; i < 12; i++) {
                Due.answer("serial(" + i / 4 + ", " + i % 4 + ")", heap.serial(i / 4, i % 4),
                    i < dropped ? 0 : i + 3);
            }
        }
    }

    // "Holding means the very object, not a copy."
    private static void holdersHoldTheVeryObject() {
        ThreadHeap heap = new ThreadHeap(4);
        heap.make(0, 0, 1);
        heap.copy(0, 1, 0);
        heap.put(0, 0, 0);
        heap.get(1, 0, 0);
        heap.make(2, 0, 2);
        heap.get(2, 1, 0);
        heap.store(2, 0, 1, 1);
        heap.load(2, 2, 0, 1);
        heap.setNumber(2, 2, 77);
        heap.store(2, 2, 0, 0);
        int[][] holders = {{0, 0}, {0, 1}, {1, 0}, {2, 1}, {2, 2}};
        for (int[] holder : holders) {
            Due.answer("serial through each holder", heap.serial(holder[0], holder[1]), 1);
            Due.answer("number through each holder", heap.number(holder[0], holder[1]), 77);
            Due.answer("serialIn through each holder", heap.serialIn(holder[0], holder[1], 0), 2);
        }
        Due.answer("made", heap.made(), 2);
        Due.answer("live", heap.live(), 2);
    }

    // "LIVE if some register of some thread ... holds it"
    private static void aRegisterKeepsAnObjectLive() {
        for (int i = 0; i < 12; i++) {
            ThreadHeap heap = new ThreadHeap(4);
            heap.make(i / 4, i % 4, 5);
            fillWithThreeMore(heap, (i / 4 + 1) % 3);
            Due.answer("live by a register, with three more", heap.live(), 4);
            Due.answer("number in the register", heap.number(i / 4, i % 4), 5);
        }
    }

    // "or some global holds it"
    private static void aGlobalKeepsAnObjectLive() {
        for (int g = 0; g < 2; g++) {
            ThreadHeap heap = new ThreadHeap(4);
            heap.make(0, 0, 5);
            heap.put(0, g, 0);
            heap.drop(0, 0);
            fillWithThreeMore(heap, 1);
            Due.answer("live by a global, with three more", heap.live(), 4);
            heap.get(0, 0, g);
            Due.answer("number in the global", heap.number(0, 0), 5);
        }
    }

    // "or some field of a live object holds it"
    private static void aFieldOfALiveObjectKeepsAnObjectLive() {
        for (int f = 0; f < 2; f++) {
            ThreadHeap heap = new ThreadHeap(5);
            heap.make(0, 0, 5);
            heap.make(0, 1, 6);
            heap.store(0, 1, f, 0);
            heap.drop(0, 0);
            fillWithThreeMore(heap, 1);
            Due.answer("live by a field, with its holder and three more", heap.live(), 5);
            heap.load(0, 0, 1, f);
            Due.answer("number in the field", heap.number(0, 0), 5);
        }
    }

    // Many objects come and go before the three, so that all room that can be used again is.
    private static void fillWithThreeMore(ThreadHeap heap, int t) {
        for (int i = 0; i < 30; i++) {
            heap.make(t, 0, 60 + i);
        }
        heap.make(t, 1, 98);
        heap.make(t, 2, 99);
        Due.answer("make past the room", heap.make(t, 3, 100), ThreadHeap.FULL);
    }

    // "An object that is not live can never be seen again."
    private static void whatIsNotLiveIsNeverSeenAgain() {
        ThreadHeap heap = Heaps.full();
        for (int r = 0; r < 4; r++) {
            heap.store(0, r, 0, (r + 1) % 4);
            heap.store(0, r, 1, r);
        }
        for (int r = 0; r < 4; r++) {
            heap.drop(0, r);
        }
        for (int i = 0; i < 12; i++) {
            Due.answer("serial when none is live", heap.serial(i / 4, i % 4), 0);
        }
        for (int i = 5; i <= 20; i++) {
            heap.drop(1, i % 4);
            Due.answer("make", heap.make(1, i % 4, 0), i);
            Due.answer("serialIn(1, .., 0) of a new object", heap.serialIn(1, i % 4, 0), 0);
            Due.answer("serialIn(1, .., 1) of a new object", heap.serialIn(1, i % 4, 1), 0);
        }
        Due.answer("live", heap.live(), 4);
    }

    // "The calls rest and pause are for housekeeping: they change nothing that any call answers."
    private static void housekeepingChangesNothing() {
        int[] want = busyRun(0, 0);
        for (int k = -1; k <= 65; k++) {
            for (int pauses = 0; pauses < 4; pauses++) {
                Due.same("with rest(" + k + ") and " + pauses + " pauses after each call",
                    busyRun(k, pauses), want);
            }
        }
    }

    /** A run of calls that moves, loses and makes objects, each with the housekeeping after it. */
    private static int[] busyRun(int k, int pauses) {
        ThreadHeap heap = new ThreadHeap(5);
        int[] seen = new int[70];
        for (int i = 0; i < seen.length; i++) {
            seen[i] = busyCall(heap, i);
            heap.rest(k);
            for (int t = 0; t < pauses; t++) {
                heap.pause((t + i) % 3);
            }
        }
        return seen;
    }

    private static int busyCall(ThreadHeap heap, int i) {
        int t = i / 7 % 3;
        int f = i / 7 % 2;
        return switch (i % 7) {
            case 0 -> heap.make(t, 0, i);
            case 1 -> heap.get(t, 1, 1 - f);
            case 2 -> heap.store(t, 0, f, 1);
            case 3 -> heap.put(t, f, 0);
            case 4 -> heap.load(t, 2, 0, f);
            case 5 -> heap.swap(t, 0, (t + 1) % 3, 3);
            default -> heap.live() * 10000 + heap.number(t, 2) * 100 + heap.serialOf(f);
        };
    }

    // "In all calls the arguments are tested first, before anything else": all registers are empty.
    private static void testsArgumentsBeforeEmpty() {
        ThreadHeap heap = new ThreadHeap(4);
        Due.answer("load(0, 4, 0, 0)", heap.load(0, 4, 0, 0), BAD_ARG);
        Due.answer("load(0, 0, 0, 2)", heap.load(0, 0, 0, 2), BAD_ARG);
        Due.answer("load(0, 0, 0, -1)", heap.load(0, 0, 0, -1), BAD_ARG);
        Due.answer("store(0, 0, 2, 0)", heap.store(0, 0, 2, 0), BAD_ARG);
        Due.answer("store(0, 0, -1, 0)", heap.store(0, 0, -1, 0), BAD_ARG);
        Due.answer("store(0, 0, 0, 4)", heap.store(0, 0, 0, 4), BAD_ARG);
        Due.answer("store(0, 0, 0, -1)", heap.store(0, 0, 0, -1), BAD_ARG);
        Due.answer("setNumber(0, 4, 1)", heap.setNumber(0, 4, 1), BAD_ARG);
        Due.answer("setNumber(3, 0, 1)", heap.setNumber(3, 0, 1), BAD_ARG);
        Due.answer("serialIn(0, 0, 2)", heap.serialIn(0, 0, 2), BAD_ARG);
        Due.answer("serialIn(0, 0, -1)", heap.serialIn(0, 0, -1), BAD_ARG);
        Due.answer("load(0, 0, 0, 1) with right arguments", heap.load(0, 0, 0, 1), ThreadHeap.EMPTY);
        Due.answer("store(0, 0, 1, 3) with right arguments", heap.store(0, 0, 1, 3), ThreadHeap.EMPTY);
        Due.answer("setNumber(2, 3, 1) with right arguments", heap.setNumber(2, 3, 1), ThreadHeap.EMPTY);
        Due.answer("serialIn(0, 0, 1) with right arguments", heap.serialIn(0, 0, 1), ThreadHeap.EMPTY);
    }

    // "In all calls the arguments are tested first, before anything else": all room is used.
    private static void testsArgumentsBeforeFull() {
        ThreadHeap heap = Heaps.full();
        Due.answer("make(-1, 0, 1)", heap.make(-1, 0, 1), BAD_ARG);
        Due.answer("make(3, 0, 1)", heap.make(3, 0, 1), BAD_ARG);
        Due.answer("make(0, -1, 1)", heap.make(0, -1, 1), BAD_ARG);
        Due.answer("make(0, 4, 1)", heap.make(0, 4, 1), BAD_ARG);
        Due.answer("make(2, 3, 1) with right arguments", heap.make(2, 3, 1), ThreadHeap.FULL);
    }

    // "(the call number answers 0 instead)"
    private static void numberAnswersZeroInstead() {
        ThreadHeap heap = Heaps.full();
        Due.answer("number(-1, 0)", heap.number(-1, 0), 0);
        Due.answer("number(3, 0)", heap.number(3, 0), 0);
        Due.answer("number(0, -1)", heap.number(0, -1), 0);
        Due.answer("number(0, 4)", heap.number(0, 4), 0);
        Due.answer("number(0, 3) with right arguments", heap.number(0, 3), 4);
    }

    // "No call ever throws."
    private static void neverThrows() {
        for (int room : new int[] {Integer.MIN_VALUE, -1, 0, 3, 4, 16, 17, Integer.MAX_VALUE}) {
            doesNotThrow("ThreadHeap(" + room + ")", () -> new ThreadHeap(room));
        }
        for (Supplier<ThreadHeap> start : Heaps.STARTS) {
            for (Calls.Call call : Calls.ALL) {
                neverThrows(start, call);
            }
        }
    }

    // The heap is kept from choice to choice, so that the calls meet many states.
    private static void neverThrows(Supplier<ThreadHeap> start, Calls.Call call) {
        ThreadHeap heap = start.get();
        for (int choice = 0; choice < Calls.choices(call.kinds()); choice++) {
            int[] arguments = Calls.chosen(call.kinds(), choice);
            ThreadHeap used = heap;
            doesNotThrow(Calls.told(call, arguments), () -> call.action().on(used, arguments));
            heap = choice % 100 == 99 ? start.get() : heap;
        }
    }

    private static void doesNotThrow(String call, Supplier<Object> action) {
        try {
            action.get();
        } catch (RuntimeException thrown) {
            Due.wrong(call + " threw " + thrown);
        }
    }

    // "A refused call answers the code named and changes nothing that any call answers."
    private static void refusedCallsChangeNothing() {
        for (Supplier<ThreadHeap> start : Heaps.STARTS) {
            Due.changesNothing(start, "one call of each kind with BAD_ARG", TermsTest::allBadArg, 0);
        }
        Due.changesNothing(Heaps::chain, "all that answer EMPTY or FULL", TermsTest::allEmptyOrFull, 0);
    }

    // Promises 11 to 16 name an answer and no change.
    private static void askingChangesNothing() {
        for (Supplier<ThreadHeap> start : Heaps.STARTS) {
            Due.changesNothing(start, "all that can be asked", TermsTest::askAll, 0);
        }
    }

    private static int askAll(ThreadHeap heap) {
        Heaps.view(heap);
        return 0;
    }

    private static int allBadArg(ThreadHeap heap) {
        int notRefused = 0;
        for (Calls.Call call : Calls.ALL) {
            for (int i = 0; i < call.kinds().length(); i++) {
                int[] arguments = new int[call.kinds().length()];
                arguments[i] = 4;
                boolean any = call.kinds().charAt(i) == 'n';
                notRefused += any || call.action().on(heap, arguments) == call.wrongArgument() ? 0 : 1;
            }
        }
        return notRefused;
    }

    private static int allEmptyOrFull(ThreadHeap heap) {
        int notRefused = 0;
        for (int i = 0; i < 12; i++) {
            int t = i / 4;
            int r = i % 4;
            notRefused += heap.load(t, r, r, i % 2) == ThreadHeap.EMPTY ? 0 : 1;
            notRefused += heap.store(t, r, i % 2, r) == ThreadHeap.EMPTY ? 0 : 1;
            notRefused += heap.setNumber(t, r, 9) == ThreadHeap.EMPTY ? 0 : 1;
            notRefused += heap.serialIn(t, r, i % 2) == ThreadHeap.EMPTY ? 0 : 1;
            notRefused += heap.make(t, r, 9) == ThreadHeap.FULL ? 0 : 1;
        }
        return notRefused;
    }
}

/**
 * A shared heap of small objects used by three threads.
 *
 * An object lives in a slot, 1 to room. Slot 0 is no object: a register, a global or a field
 * that is empty names it, and its number and serial number stay 0.
 *
 * A slot is given back only by a sweep that directly follows a full marking, with no other call
 * in between. So nothing that a thread does between two calls of the housekeeping can hide an
 * object from it, and no mark has to be kept true from one call to the next.
 */
public final class ThreadHeap {
    public static final int BAD_ARG = -1;
    public static final int FULL = -2;
    public static final int EMPTY = -3;

    private static final int THREADS = 3;
    private static final int REGISTERS_EACH = 4;
    private static final int REGISTERS = 12;
    private static final int GLOBALS = 2;
    private static final int FIELDS = 2;
    private static final int MIN_ROOM = 4;
    private static final int MAX_ROOM = 16;
    private static final int SLOTS = 17;
    private static final int FIELD_CELLS = 34;
    private static final int MAX_STEPS = 63;
    private static final int NO_OBJECT = 0;

    private final int[] registers = new int[REGISTERS];
    private final int[] globals = new int[GLOBALS];

    private final int[] numbers = new int[SLOTS];
    private final int[] serials = new int[SLOTS];
    private final int[] fields = new int[FIELD_CELLS];
    private final boolean[] taken = new boolean[SLOTS];

    private final boolean[] marked = new boolean[SLOTS];
    private final int[] reached = new int[SLOTS];
    private int reachedCount = 0;

    private final int room;
    private int madeCount = 0;
    private int lastSwept = 0;

    public ThreadHeap(int room) {
        if (room < MIN_ROOM) {
            this.room = MIN_ROOM;
        } else if (room > MAX_ROOM) {
            this.room = MAX_ROOM;
        } else {
            this.room = room;
        }
    }

    public int make(int t, int r, int n) {
        if (!isRegister(t, r)) {
            return BAD_ARG;
        }
        int slot = findRoom();
        if (slot == NO_OBJECT) {
            return FULL;
        }
        madeCount++;
        taken[slot] = true;
        numbers[slot] = n;
        serials[slot] = madeCount;
        fields[fieldCell(slot, 0)] = NO_OBJECT;
        fields[fieldCell(slot, 1)] = NO_OBJECT;
        registers[registerCell(t, r)] = slot;
        return madeCount;
    }

    public int copy(int t, int r, int s) {
        if (!isRegister(t, r) || !isRegister(t, s)) {
            return BAD_ARG;
        }
        registers[registerCell(t, r)] = registers[registerCell(t, s)];
        return 0;
    }

    public int drop(int t, int r) {
        if (!isRegister(t, r)) {
            return BAD_ARG;
        }
        registers[registerCell(t, r)] = NO_OBJECT;
        return 0;
    }

    public int load(int t, int r, int s, int f) {
        if (!isRegister(t, r) || !isRegister(t, s) || !isField(f)) {
            return BAD_ARG;
        }
        int owner = registers[registerCell(t, s)];
        if (owner == NO_OBJECT) {
            return EMPTY;
        }
        registers[registerCell(t, r)] = fields[fieldCell(owner, f)];
        return 0;
    }

    public int store(int t, int s, int f, int r) {
        if (!isRegister(t, s) || !isField(f) || !isRegister(t, r)) {
            return BAD_ARG;
        }
        int owner = registers[registerCell(t, s)];
        if (owner == NO_OBJECT) {
            return EMPTY;
        }
        fields[fieldCell(owner, f)] = registers[registerCell(t, r)];
        return 0;
    }

    public int put(int t, int g, int r) {
        if (!isRegister(t, r) || !isGlobal(g)) {
            return BAD_ARG;
        }
        globals[g] = registers[registerCell(t, r)];
        return 0;
    }

    public int get(int t, int r, int g) {
        if (!isRegister(t, r) || !isGlobal(g)) {
            return BAD_ARG;
        }
        registers[registerCell(t, r)] = globals[g];
        return 0;
    }

    public int swap(int t, int r, int u, int s) {
        if (!isRegister(t, r) || !isRegister(u, s)) {
            return BAD_ARG;
        }
        int first = registerCell(t, r);
        int second = registerCell(u, s);
        int slot = registers[first];
        registers[first] = registers[second];
        registers[second] = slot;
        return 0;
    }

    public int setNumber(int t, int r, int n) {
        if (!isRegister(t, r)) {
            return BAD_ARG;
        }
        int slot = registers[registerCell(t, r)];
        if (slot == NO_OBJECT) {
            return EMPTY;
        }
        numbers[slot] = n;
        return 0;
    }

    public int number(int t, int r) {
        if (!isRegister(t, r)) {
            return 0;
        }
        return numbers[registers[registerCell(t, r)]];
    }

    public int serial(int t, int r) {
        if (!isRegister(t, r)) {
            return BAD_ARG;
        }
        return serials[registers[registerCell(t, r)]];
    }

    public int serialIn(int t, int r, int f) {
        if (!isRegister(t, r) || !isField(f)) {
            return BAD_ARG;
        }
        int owner = registers[registerCell(t, r)];
        if (owner == NO_OBJECT) {
            return EMPTY;
        }
        return serials[fields[fieldCell(owner, f)]];
    }

    public int serialOf(int g) {
        if (!isGlobal(g)) {
            return BAD_ARG;
        }
        return serials[globals[g]];
    }

    public int made() {
        return madeCount;
    }

    public int live() {
        markLive();
        return reachedCount;
    }

    public void rest(int k) {
        if (k < 1) {
            return;
        }
        int steps = k > MAX_STEPS ? MAX_STEPS : k;
        markLive();
        sweep(steps);
    }

    // The housekeeping never waits for a thread, so a pause leaves it nothing to do.
    public int pause(int t) {
        return isThread(t) ? 0 : BAD_ARG;
    }

    private static boolean isThread(int t) {
        return t >= 0 && t < THREADS;
    }

    private static boolean isRegister(int t, int r) {
        return isThread(t) && r >= 0 && r < REGISTERS_EACH;
    }

    private static boolean isField(int f) {
        return f >= 0 && f < FIELDS;
    }

    private static boolean isGlobal(int g) {
        return g >= 0 && g < GLOBALS;
    }

    private static int registerCell(int t, int r) {
        return t * REGISTERS_EACH + r;
    }

    private static int fieldCell(int slot, int f) {
        return slot * FIELDS + f;
    }

    // A slot that is not taken holds no live object, so while there is one the heap can't be full.
    private int findRoom() {
        int slot = freeSlot();
        if (slot != NO_OBJECT) {
            return slot;
        }
        markLive();
        sweep(room);
        return freeSlot();
    }

    private int freeSlot() {
        for (int slot = 1; slot <= room; slot++) {
            if (!taken[slot]) {
                return slot;
            }
        }
        return NO_OBJECT;
    }

    private void markLive() {
        for (int slot = 0; slot < SLOTS; slot++) {
            marked[slot] = false;
        }
        reachedCount = 0;
        for (int cell = 0; cell < REGISTERS; cell++) {
            reach(registers[cell]);
        }
        for (int g = 0; g < GLOBALS; g++) {
            reach(globals[g]);
        }
        // Each slot is reached once, so the list that grows here ends with the last slot.
        for (int next = 0; next < SLOTS && next < reachedCount; next++) {
            int first = reached[next] * FIELDS;
            for (int f = 0; f < FIELDS; f++) {
                reach(fields[first + f]);
            }
        }
    }

    private void reach(int slot) {
        if (slot == NO_OBJECT || marked[slot]) {
            return;
        }
        marked[slot] = true;
        reached[reachedCount] = slot;
        reachedCount++;
    }

    // Each step looks at one slot, the one after the last step's; the marks must be fresh.
    private void sweep(int steps) {
        for (int step = 0; step < steps; step++) {
            lastSwept = lastSwept < room ? lastSwept + 1 : 1;
            if (!marked[lastSwept]) {
                taken[lastSwept] = false;
            }
        }
    }
}

import java.util.ArrayDeque;
import java.util.Arrays;
import java.util.Collections;
import java.util.Deque;
import java.util.IdentityHashMap;
import java.util.Set;

/**
 * All promises together: long runs of mixed calls, compared call by call with a second program
 * that keeps each object as a Java object and leaves the housekeeping to Java.
 */
public final class ModelTest {
    private static final int RUNS = 6000;
    private static final int CALLS = 460;
    private static final int KINDS = 17;
    private static final int MAKE = 0;
    private static final int STORE = 4;

    private static final int[] fullAnswers = new int[17];

    public static void main(String[] args) {
        for (int run = 0; run < RUNS; run++) {
            new ModelTest(run).play();
        }
        everyRoomWasFilled();
        Due.end();
    }

    // Runs that never fill the heap would show nothing of how room is made.
    private static void everyRoomWasFilled() {
        for (int room = 4; room <= 16; room++) {
            if (fullAnswers[room] < 100) {
                Due.wrong("the runs met FULL only " + fullAnswers[room] + " times with room for " + room);
            }
        }
    }

    private static final class Thing {
        final Thing[] fields = new Thing[2];
        int number;
        int serial;
    }

    private final Thing[][] registers = new Thing[3][4];
    private final Thing[] globals = new Thing[2];
    private final int room;
    private int made = 0;

    private final ThreadHeap heap;
    private final int run;
    private long seed;

    private ModelTest(int run) {
        this.run = run;
        seed = run * 7919L + 1;
        int asked = draw(20) - 1;
        room = Math.max(4, Math.min(16, asked));
        heap = new ThreadHeap(asked);
    }

    // A fixed sequence for each run, so that a failure comes again.
    private int draw(int end) {
        seed = seed * 6364136223846793005L + 1442695040888963407L;
        return (int) ((seed >>> 33) % end);
    }

    // Wrong arguments are rare, so that most of a run gets somewhere.
    private int drawArgument(int end) {
        int drawn = draw(150);
        if (drawn == 0) {
            return -1;
        }
        return drawn == 1 ? end : draw(end);
    }

    private void play() {
        int[] weights = drawWeights();
        int sum = Arrays.stream(weights).sum();
        for (int i = 0; i < CALLS; i++) {
            int left = draw(sum);
            int kind = 0;
            while (left >= weights[kind]) {
                left -= weights[kind];
                kind++;
            }
            call(kind);
        }
        Due.same("at the end of run " + run, Heaps.view(heap), view());
    }

    // How often each kind of call comes differs from run to run. Every other run makes and stores
    // so often that it fills a large heap too, which needs objects that only fields hold.
    private int[] drawWeights() {
        int often = run % 2 == 0 ? 1 : 6;
        int[] weights = new int[KINDS];
        for (int kind = 0; kind < KINDS; kind++) {
            weights[kind] = (1 + draw(8)) * (kind == MAKE || kind == STORE ? often : 1);
        }
        return weights;
    }

    private void call(int kind) {
        int t = drawArgument(3);
        int u = drawArgument(3);
        int r = drawArgument(4);
        int s = drawArgument(4);
        int f = drawArgument(2);
        int n = draw(1000) - 500;
        switch (kind) {
            case MAKE -> due("make", heap.make(t, r, n), make(t, r, n));
            case 1 -> due("copy", heap.copy(t, r, s), copy(t, r, s));
            case 2 -> due("drop", heap.drop(t, r), drop(t, r));
            case 3 -> due("load", heap.load(t, r, s, f), load(t, r, s, f));
            case STORE -> due("store", heap.store(t, s, f, r), store(t, s, f, r));
            case 5 -> due("put", heap.put(t, f, r), put(t, f, r));
            case 6 -> due("get", heap.get(t, r, f), get(t, r, f));
            case 7 -> due("swap", heap.swap(t, r, u, s), swap(t, r, u, s));
            case 8 -> due("setNumber", heap.setNumber(t, r, n), setNumber(t, r, n));
            case 9 -> due("number", heap.number(t, r), number(t, r));
            case 10 -> due("serial", heap.serial(t, r), serial(t, r));
            case 11 -> due("serialIn", heap.serialIn(t, r, f), serialIn(t, r, f));
            case 12 -> due("serialOf", heap.serialOf(f), serialOf(f));
            case 13 -> due("made", heap.made(), made);
            case 14 -> due("live", heap.live(), live());
            case 15 -> heap.rest(draw(70) - 2);
            default -> due("pause", heap.pause(t), bad(t, 3) ? ThreadHeap.BAD_ARG : 0);
        }
    }

    private void due(String call, int got, int want) {
        Due.answer("run " + run + ": " + call, got, want);
    }

    private static boolean bad(int argument, int end) {
        return argument < 0 || argument >= end;
    }

    private static int serialOfThing(Thing thing) {
        return thing == null ? 0 : thing.serial;
    }

    private int make(int t, int r, int n) {
        if (bad(t, 3) || bad(r, 4)) {
            return ThreadHeap.BAD_ARG;
        }
        if (live() >= room) {
            fullAnswers[room]++;
            return ThreadHeap.FULL;
        }
        Thing thing = new Thing();
        thing.number = n;
        thing.serial = ++made;
        registers[t][r] = thing;
        return made;
    }

    private int copy(int t, int r, int s) {
        if (bad(t, 3) || bad(r, 4) || bad(s, 4)) {
            return ThreadHeap.BAD_ARG;
        }
        registers[t][r] = registers[t][s];
        return 0;
    }

    private int drop(int t, int r) {
        if (bad(t, 3) || bad(r, 4)) {
            return ThreadHeap.BAD_ARG;
        }
        registers[t][r] = null;
        return 0;
    }

    private int load(int t, int r, int s, int f) {
        if (bad(t, 3) || bad(r, 4) || bad(s, 4) || bad(f, 2)) {
            return ThreadHeap.BAD_ARG;
        }
        if (registers[t][s] == null) {
            return ThreadHeap.EMPTY;
        }
        registers[t][r] = registers[t][s].fields[f];
        return 0;
    }

    private int store(int t, int s, int f, int r) {
        if (bad(t, 3) || bad(r, 4) || bad(s, 4) || bad(f, 2)) {
            return ThreadHeap.BAD_ARG;
        }
        if (registers[t][s] == null) {
            return ThreadHeap.EMPTY;
        }
        registers[t][s].fields[f] = registers[t][r];
        return 0;
    }

    private int put(int t, int g, int r) {
        if (bad(t, 3) || bad(g, 2) || bad(r, 4)) {
            return ThreadHeap.BAD_ARG;
        }
        globals[g] = registers[t][r];
        return 0;
    }

    private int get(int t, int r, int g) {
        if (bad(t, 3) || bad(g, 2) || bad(r, 4)) {
            return ThreadHeap.BAD_ARG;
        }
        registers[t][r] = globals[g];
        return 0;
    }

    private int swap(int t, int r, int u, int s) {
        if (bad(t, 3) || bad(r, 4) || bad(u, 3) || bad(s, 4)) {
            return ThreadHeap.BAD_ARG;
        }
        Thing thing = registers[t][r];
        registers[t][r] = registers[u][s];
        registers[u][s] = thing;
        return 0;
    }

    private int setNumber(int t, int r, int n) {
        if (bad(t, 3) || bad(r, 4)) {
            return ThreadHeap.BAD_ARG;
        }
        if (registers[t][r] == null) {
            return ThreadHeap.EMPTY;
        }
        registers[t][r].number = n;
        return 0;
    }

    private int number(int t, int r) {
        return bad(t, 3) || bad(r, 4) || registers[t][r] == null ? 0 : registers[t][r].number;
    }

    private int serial(int t, int r) {
        return bad(t, 3) || bad(r, 4) ? ThreadHeap.BAD_ARG : serialOfThing(registers[t][r]);
    }

    private int serialIn(int t, int r, int f) {
        if (bad(t, 3) || bad(r, 4) || bad(f, 2)) {
            return ThreadHeap.BAD_ARG;
        }
        return registers[t][r] == null ? ThreadHeap.EMPTY : serialOfThing(registers[t][r].fields[f]);
    }

    private int serialOf(int g) {
        return bad(g, 2) ? ThreadHeap.BAD_ARG : serialOfThing(globals[g]);
    }

    private int live() {
        Deque<Thing> open = new ArrayDeque<>();
        for (Thing[] ofThread : registers) {
            addAll(open, ofThread);
        }
        addAll(open, globals);
        Set<Thing> seen = Collections.newSetFromMap(new IdentityHashMap<>());
        while (!open.isEmpty()) {
            Thing thing = open.pop();
            if (seen.add(thing)) {
                addAll(open, thing.fields);
            }
        }
        return seen.size();
    }

    private static void addAll(Deque<Thing> open, Thing[] things) {
        for (Thing thing : things) {
            if (thing != null) {
                open.push(thing);
            }
        }
    }

    private int[] view() {
        int[] seen = new int[52];
        int next = 0;
        for (int t = 0; t < 3; t++) {
            for (int r = 0; r < 4; r++) {
                seen[next++] = serial(t, r);
                seen[next++] = number(t, r);
                seen[next++] = serialIn(t, r, 0);
                seen[next++] = serialIn(t, r, 1);
            }
        }
        seen[next++] = serialOf(0);
        seen[next++] = serialOf(1);
        seen[next++] = made;
        seen[next] = live();
        return seen;
    }
}

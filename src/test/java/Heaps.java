/** Heaps that tests begin with. */
final class Heaps {
    static final int NONE = EphemeronHeap.NONE;
    static final int FULL = EphemeronHeap.FULL;
    static final int PLAIN = 0;
    static final int WEAK = 1;
    static final int PAIR = 2;
    static final int ALL_TWENTY = 0xFFFFF;

    /** Below what r may be; a shift by -32 or -28 is one by 0 or 4. */
    static final int[] ROOTS_BELOW = {-1, -2, -28, -32, Integer.MIN_VALUE};
    static final int[] ROOTS_ABOVE = {4, 5, 32, 35, Integer.MAX_VALUE};

    /** Below and above what an object's number may be, NONE aside; shifts by some of them are shifts by 0 .. 19. */
    static final int[] NUMBERS_BELOW = {-2, -3, -31, -32, -64, Integer.MIN_VALUE};
    static final int[] NUMBERS_ABOVE = {20, 21, 31, 32, 33, 51, 64, Integer.MAX_VALUE};

    static final int[] FIELDS_BELOW = {-1, -2, -32, Integer.MIN_VALUE};
    static final int[] FIELDS_ABOVE = {2, 3, 32, 33, Integer.MAX_VALUE};

    /** What the heap that mixed() answers has. */
    static final int MIXED_GONE = 8;
    static final int MIXED_NOT_ALIVE = 3;
    static final int[] MIXED_NEVER_MADE = {10, 11, 18, 19};
    static final int[] MIXED_QUEUE = {5, 7};

    private Heaps() {
    }

    /** A heap of objects 0, 1, .. of these kinds, which nothing keeps alive. */
    static EphemeronHeap unrooted(int... kinds) {
        EphemeronHeap heap = new EphemeronHeap();
        for (int kind : kinds) {
            heap.make(kind, 0);
        }
        heap.root(0, NONE);
        return heap;
    }

    /** Twenty plain objects, which nothing keeps alive. */
    static EphemeronHeap twenty() {
        return unrooted(new int[20]);
    }

    /** Twenty objects, all in the queue. */
    static EphemeronHeap twentyQueued() {
        EphemeronHeap heap = twenty();
        for (int o = 0; o < 20; o++) {
            heap.watch(o);
        }
        heap.clean();
        return heap;
    }

    /** Plain objects 0 .. 5 keep pairs 6 .. 11, and pair 6 + i waits for object 13 + i to keep object 12 + i. Root 0 is at 0. */
    static EphemeronHeap pairsInARow() {
        EphemeronHeap heap = new EphemeronHeap();
        for (int o = 0; o < 19; o++) {
            heap.make(o >= 6 && o < 12 ? PAIR : PLAIN, 0);
        }
        for (int i = 0; i < 6; i++) {
            heap.point(i, 0, 6 + i);
            heap.point(i, 1, i < 5 ? i + 1 : NONE);
            heap.point(6 + i, 0, 13 + i);
            heap.point(6 + i, 1, 12 + i);
        }
        heap.root(0, 0);
        return heap;
    }

    /** Object 0 has been made, has been watched, has pointed to itself, and is gone. */
    static EphemeronHeap gone(int kind) {
        EphemeronHeap heap = unrooted(kind);
        heap.point(0, 0, 0);
        heap.point(0, 1, 0);
        heap.watch(0);
        heap.clean();
        heap.take(0);
        heap.root(0, NONE);
        heap.clean();
        return heap;
    }

    /**
     * A heap with something of everything: 0 .. 7 and 9 are there, 8 is gone, 10 .. 19 were never made; 3 is there but
     * not alive; 5 and 7 are in the queue; 0, 3 and 7 are watched; roots 0 .. 2 point to 0 .. 2, root 3 to nothing.
     */
    static EphemeronHeap mixed() {
        EphemeronHeap heap = new EphemeronHeap();
        int[] kinds = {PLAIN, WEAK, PAIR, PLAIN, PLAIN, WEAK, PAIR, PLAIN, PLAIN, PLAIN};
        for (int o = 0; o < kinds.length; o++) {
            heap.make(kinds[o], o < 3 ? o : 3);
        }
        heap.point(0, 0, 4);
        heap.point(0, 1, 9);
        heap.point(1, 0, 0);
        heap.point(1, 1, 6);
        heap.point(2, 0, 0);
        heap.point(2, 1, 9);
        heap.point(6, 0, 4);
        heap.point(6, 1, 9);
        heap.root(3, 3);
        heap.watch(5);
        heap.watch(7);
        heap.clean();
        heap.root(3, NONE);
        heap.watch(0);
        heap.watch(3);
        heap.watch(7);
        return heap;
    }

    /** The mixed heap filled up: twenty objects, root 3 points to 19, and those that were made last before it are not alive. */
    static EphemeronHeap mixedAndFull() {
        EphemeronHeap heap = mixed();
        for (int i = 0; i < 11; i++) {
            heap.make(i % 3, 3);
        }
        return heap;
    }
}

/** Promises 10 and 16: which objects are alive, and which only because of one object's fields. */
public final class AliveTest {
    private static final int NONE = EphemeronHeap.NONE;
    private static final int PLAIN = 0;
    private static final int WEAK = 1;
    private static final int PAIR = 2;
    private static final Check check = new Check();

    private static void rootsKeepAlive() {
        EphemeronHeap heap = Check.unrooted(PLAIN, WEAK, PAIR, PLAIN, PLAIN);
        check.due("10: without roots", heap.alive(), 0);
        for (int r = 0; r < 4; r++) {
            heap.root(r, r);
            check.due("10: with root " + r, heap.alive(), (1 << r + 1) - 1);
        }
        heap.root(3, 0);
        check.due("10: two roots to one", heap.alive(), Check.set(0, 1, 2));
        heap.root(0, NONE);
        check.due("10: one of two roots away", heap.alive(), Check.set(0, 1, 2));
    }

    private static void kindsKeepAlive() {
        EphemeronHeap plain = Check.unrooted(PLAIN, PLAIN, PLAIN);
        EphemeronHeap weak = Check.unrooted(WEAK, PLAIN, PLAIN);
        EphemeronHeap pair = Check.unrooted(PAIR, PLAIN, PLAIN);
        for (EphemeronHeap heap : new EphemeronHeap[] {plain, weak, pair}) {
            heap.point(0, 0, 1);
            heap.point(0, 1, 2);
            check.due("10: nothing by one that is not alive", heap.alive(), 0);
            check.due("16: nothing by one that is not alive", heap.heldBy(0), 0);
            heap.root(0, 0);
        }
        check.due("10: plain", plain.alive(), Check.set(0, 1, 2));
        check.due("16: plain", plain.heldBy(0), Check.set(1, 2));
        check.due("10: weak", weak.alive(), Check.set(0, 2));
        check.due("16: weak", weak.heldBy(0), Check.set(2));
        check.due("10: pair whose a is not alive", pair.alive(), Check.set(0));
        check.due("16: pair whose a is not alive", pair.heldBy(0), 0);
        pair.root(1, 1);
        check.due("10: pair whose a is alive", pair.alive(), Check.set(0, 1, 2));
        check.due("16: pair whose a is alive", pair.heldBy(0), Check.set(2));
        check.due("16: what a pair's a points to holds nothing", pair.heldBy(1), 0);
        pair.point(0, 0, NONE);
        check.due("10: pair whose a is nothing", pair.alive(), Check.set(0, 1));
        pair.point(0, 0, 1);
        pair.root(0, NONE);
        check.due("10: pair that is not alive", pair.alive(), Check.set(1));
    }

    private static void pairsOfThemselves() {
        EphemeronHeap heap = Check.unrooted(PAIR, PLAIN);
        heap.point(0, 0, 0);
        heap.point(0, 1, 1);
        check.due("10: a pair's a does not keep itself alive", heap.alive(), 0);
        heap.root(0, 0);
        check.due("10: a pair that is its own a", heap.alive(), Check.set(0, 1));
        check.due("16: a pair that is its own a", heap.heldBy(0), Check.set(1));
        heap.point(0, 0, 1);
        check.due("10: a pair whose a and b are one", heap.alive(), Check.set(0));
        heap.root(1, 1);
        check.due("10: a pair whose a and b are one, alive by a root", heap.alive(), Check.set(0, 1));
        check.due("16: a pair whose a and b are one, alive by a root", heap.heldBy(0), 0);
    }

    private static void pairsThatWaitForEachOther() {
        EphemeronHeap heap = Check.unrooted(PAIR, PAIR, PLAIN, PLAIN);
        heap.point(0, 0, 2);
        heap.point(0, 1, 3);
        heap.point(1, 0, 3);
        heap.point(1, 1, 2);
        heap.root(0, 0);
        heap.root(1, 1);
        check.due("10: two pairs in a ring", heap.alive(), Check.set(0, 1));
        heap.root(2, 3);
        check.due("10: two pairs in a ring, one a alive", heap.alive(), Check.set(0, 1, 2, 3));
        check.due("16: the one that starts the ring", heap.heldBy(1), Check.set(2));
        check.due("16: the other", heap.heldBy(0), 0);
    }

    private static void aPairComesAliveAfterItsA() {
        EphemeronHeap heap = Check.unrooted(PLAIN, PAIR, PLAIN, PLAIN);
        heap.root(0, 3);
        heap.point(1, 0, 3);
        heap.point(1, 1, 2);
        heap.point(3, 0, 0);
        heap.point(0, 1, 1);
        check.due("10: a pair found late", heap.alive(), Check.set(0, 1, 2, 3));
        check.due("16: through another", heap.heldBy(3), Check.set(0, 1, 2));
        check.due("16: through another", heap.heldBy(0), Check.set(1, 2));
    }

    /** Object 19 is rooted and every object points to the one below it, so that each look finds one more. */
    private static void longChains() {
        for (int kind = PLAIN; kind <= WEAK; kind++) {
            EphemeronHeap heap = new EphemeronHeap();
            for (int o = 0; o < 20; o++) {
                heap.make(kind, 0);
                heap.point(o, 1, o - 1);
            }
            check.due("10: a chain of twenty", heap.alive(), 0xFFFFF);
            for (int o = 0; o < 20; o++) {
                check.due("16: a chain of twenty from " + o, heap.heldBy(o), (1 << o) - 1);
            }
        }
    }

    /** Plain objects 0 .. 5 keep pairs 6 .. 11, and pair 6 + i waits for object 13 + i to keep object 12 + i. */
    private static void pairsThatWaitInARow() {
        EphemeronHeap heap = new EphemeronHeap();
        for (int o = 0; o < 19; o++) {
            heap.make(o >= 6 && o < 12 ? PAIR : PLAIN, 0);
        }
        for (int i = 0; i < 6; i++) {
            heap.point(i, 0, 6 + i);
            heap.point(i, 1, i < 5 ? i + 1 : NONE);
            heap.point(6 + i, 0, 13 + i);
            heap.point(6 + i, 1, 12 + i);
        }
        heap.root(0, 0);
        check.due("10: pairs that all wait", heap.alive(), 0xFFF);
        heap.root(1, 15);
        check.due("10: pairs half of which wait", heap.alive(), 0xFFFF);
        heap.root(1, 18);
        check.due("10: pairs that waited", heap.alive(), 0x7FFFF);
        check.due("16: by the first pair found", heap.heldBy(11), 0x3F000);
        check.due("16: by the last pair found", heap.heldBy(6), Check.set(12));
        check.due("16: by one that keeps a pair", heap.heldBy(5), Check.set(11, 12, 13, 14, 15, 16, 17));
    }

    private static void ringsAreNotAliveByThemselves() {
        EphemeronHeap heap = Check.unrooted(PLAIN, WEAK, PLAIN);
        heap.point(0, 0, 1);
        heap.point(1, 1, 0);
        heap.point(2, 0, 2);
        check.due("10: rings", heap.alive(), 0);
        heap.root(3, 1);
        check.due("10: a ring with a root", heap.alive(), Check.set(0, 1));
        check.due("16: in a ring", heap.heldBy(1), Check.set(0));
        check.due("16: back to the rooted one", heap.heldBy(0), 0);
    }

    private static void theQueueKeepsAlive() {
        EphemeronHeap heap = Check.unrooted(PLAIN, WEAK, PAIR, PLAIN);
        heap.point(0, 0, 1);
        heap.point(1, 1, 2);
        heap.point(2, 0, 1);
        heap.point(2, 1, 3);
        heap.watch(0);
        heap.clean();
        check.due("10: through the queue", heap.alive(), Check.set(0, 1, 2, 3));
        check.due("16: by one in the queue", heap.heldBy(0), Check.set(1, 2, 3));
        check.due("16: by a pair through the queue", heap.heldBy(2), Check.set(3));
    }

    private static void watchingKeepsNothingAlive() {
        EphemeronHeap heap = Check.unrooted(PLAIN);
        heap.watch(0);
        check.due("10: one that is watched", heap.alive(), 0);
    }

    private static void heldTwice() {
        EphemeronHeap heap = Check.unrooted(PLAIN, PLAIN, PLAIN, PLAIN);
        heap.root(0, 0);
        heap.root(1, 1);
        heap.point(0, 0, 2);
        heap.point(1, 0, 2);
        heap.point(0, 1, 3);
        check.due("16: not what another holds too", heap.heldBy(0), Check.set(3));
        check.due("16: held by two", heap.heldBy(1), 0);
        check.due("11: fields stay", heap.field(0, 0), 2);
        check.due("11: fields stay", heap.field(0, 1), 3);
        heap.root(2, 3);
        check.due("16: not what a root holds too", heap.heldBy(0), 0);
    }

    private static void heldThroughAPairsA() {
        EphemeronHeap heap = Check.unrooted(PLAIN, PAIR, PLAIN, PLAIN);
        heap.root(0, 0);
        heap.root(1, 1);
        heap.point(0, 0, 2);
        heap.point(1, 0, 2);
        heap.point(1, 1, 3);
        check.due("16: what a pair then lets go too", heap.heldBy(0), Check.set(2, 3));
        check.due("16: by the pair", heap.heldBy(1), Check.set(3));
    }

    private static void heldByWrongInputs() {
        EphemeronHeap heap = Check.unrooted(PLAIN, PLAIN);
        heap.root(0, 0);
        heap.point(0, 0, 1);
        for (int o : new int[] {-1, -2, 2, 19, 20, 31, 32, 64, Integer.MIN_VALUE, Integer.MAX_VALUE}) {
            check.due("16: heldBy(" + o + ")", heap.heldBy(o), 0);
        }
        heap.root(0, NONE);
        heap.clean();
        check.due("16: heldBy of one that is gone", heap.heldBy(0), 0);
    }

    public static void main(String[] args) {
        rootsKeepAlive();
        kindsKeepAlive();
        pairsOfThemselves();
        pairsThatWaitForEachOther();
        aPairComesAliveAfterItsA();
        longChains();
        pairsThatWaitInARow();
        ringsAreNotAliveByThemselves();
        theQueueKeepsAlive();
        watchingKeepsNothingAlive();
        heldTwice();
        heldThroughAPairsA();
        heldByWrongInputs();
        check.end();
    }
}

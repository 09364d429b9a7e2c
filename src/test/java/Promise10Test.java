/** Promise 10, alive: bit o for object o in the least set that the document tells under Terms. */
public final class Promise10Test {
    private static final int NONE = Heaps.NONE;
    private static final int PLAIN = Heaps.PLAIN;
    private static final int WEAK = Heaps.WEAK;
    private static final int PAIR = Heaps.PAIR;

    /** Object 0 of this kind with a root, whose a and b point to 1 and 2. */
    private static EphemeronHeap rooted(int kind) {
        EphemeronHeap heap = Heaps.unrooted(kind, PLAIN, PLAIN);
        heap.root(0, 0);
        heap.point(0, 0, 1);
        heap.point(0, 1, 2);
        return heap;
    }

    static void noObjects(Check check) {
        check.changesNothing("alive()", EphemeronHeap::new, EphemeronHeap::alive, 0);
    }

    static void objectsWithoutARoot(Check check) {
        check.changesNothing("alive()", Heaps::twenty, EphemeronHeap::alive, 0);
    }

    static void lookingChangesNothing(Check check) {
        check.changesNothing("alive()", Heaps::mixed, EphemeronHeap::alive, Check.set(0, 1, 2, 4, 5, 6, 7, 9));
    }

    static void everyNumberByEveryRoot(Check check) {
        for (int o = 0; o < 20; o++) {
            for (int r = 0; r < 4; r++) {
                EphemeronHeap heap = Heaps.twenty();
                heap.root(r, o);
                check.due("alive() after root(" + r + ", " + o + ")", heap.alive(), Check.set(o));
            }
        }
    }

    static void everyNumberByAField(Check check) {
        for (int p = 1; p < 20; p++) {
            for (int which = 0; which < 2; which++) {
                EphemeronHeap heap = Heaps.twenty();
                heap.root(0, 0);
                heap.point(0, which, p);
                check.due("alive() after point(0, " + which + ", " + p + ")", heap.alive(), Check.set(0, p));
            }
        }
    }

    static void allTwentyByTheQueue(Check check) {
        check.changesNothing("alive()", Heaps::twentyQueued, EphemeronHeap::alive, Heaps.ALL_TWENTY);
    }

    /** Each finds the next one only after it has been found: down and up through the numbers. */
    static void allTwentyInAChain(Check check) {
        for (int step = -1; step <= 1; step += 2) {
            for (int kind = PLAIN; kind <= WEAK; kind++) {
                EphemeronHeap heap = new EphemeronHeap();
                for (int o = 0; o < 20; o++) {
                    heap.make(kind, 0);
                }
                for (int o = 0; o < 20; o++) {
                    heap.point(o, 1, o + step == 20 ? NONE : o + step);
                }
                heap.root(0, step < 0 ? 19 : 0);
                check.due("alive(), kind " + kind + ", step " + step, heap.alive(), Heaps.ALL_TWENTY);
            }
        }
    }

    static void plainKeepsAAndB(Check check) {
        check.due("alive()", rooted(PLAIN).alive(), Check.set(0, 1, 2));
    }

    static void plainThatIsNotAliveKeepsNothing(Check check) {
        EphemeronHeap heap = rooted(PLAIN);
        heap.root(0, NONE);
        check.due("alive()", heap.alive(), 0);
    }

    static void weakKeepsBAlone(Check check) {
        check.due("alive()", rooted(WEAK).alive(), Check.set(0, 2));
    }

    static void weakThatIsNotAliveKeepsNothing(Check check) {
        EphemeronHeap heap = rooted(WEAK);
        heap.root(0, NONE);
        check.due("alive()", heap.alive(), 0);
    }

    static void pairWhoseAIsNotAlive(Check check) {
        check.due("alive()", rooted(PAIR).alive(), Check.set(0));
    }

    static void pairWhoseAIsAlive(Check check) {
        EphemeronHeap heap = rooted(PAIR);
        heap.root(1, 1);
        check.due("alive()", heap.alive(), Check.set(0, 1, 2));
    }

    static void pairWhoseAIsNothing(Check check) {
        EphemeronHeap heap = rooted(PAIR);
        heap.point(0, 0, NONE);
        check.due("alive()", heap.alive(), Check.set(0));
    }

    static void pairThatIsNotAlive(Check check) {
        EphemeronHeap heap = rooted(PAIR);
        heap.root(0, 1);
        check.due("alive()", heap.alive(), Check.set(1));
    }

    static void pairWhoseAAndBAreOne(Check check) {
        EphemeronHeap heap = rooted(PAIR);
        heap.point(0, 0, 2);
        check.due("alive(): the pair is no reason", heap.alive(), Check.set(0));
    }

    static void pairThatIsItsOwnA(Check check) {
        EphemeronHeap heap = rooted(PAIR);
        heap.point(0, 0, 0);
        check.due("alive() with a root", heap.alive(), Check.set(0, 2));
        heap.root(0, NONE);
        check.due("alive() without", heap.alive(), 0);
    }

    static void pairWhoseBHoldsItsA(Check check) {
        EphemeronHeap heap = rooted(PAIR);
        heap.point(2, 0, 1);
        check.due("alive(): a only through the pair's own b", heap.alive(), Check.set(0));
    }

    static void pairsThatWaitForEachOther(Check check) {
        EphemeronHeap heap = Heaps.unrooted(PAIR, PAIR, PLAIN, PLAIN);
        heap.root(0, 0);
        heap.root(1, 1);
        heap.point(0, 0, 2);
        heap.point(0, 1, 3);
        heap.point(1, 0, 3);
        heap.point(1, 1, 2);
        check.due("alive(): the set is the least", heap.alive(), Check.set(0, 1));
        heap.root(2, 3);
        check.due("alive() when one of them waits no more", heap.alive(), Check.set(0, 1, 2, 3));
    }

    static void pairFoundLongAfterItsA(Check check) {
        EphemeronHeap heap = Heaps.unrooted(PLAIN, PAIR, PLAIN, PLAIN);
        heap.root(0, 3);
        heap.point(3, 0, 0);
        heap.point(0, 1, 1);
        heap.point(1, 0, 3);
        heap.point(1, 1, 2);
        check.due("alive()", heap.alive(), Check.set(0, 1, 2, 3));
    }

    static void pairsInARow(Check check) {
        EphemeronHeap heap = Heaps.pairsInARow();
        check.due("alive() when all wait", heap.alive(), 0xFFF);
        heap.root(1, 15);
        check.due("alive() when half of them wait", heap.alive(), 0xFFFF);
        heap.root(1, 18);
        check.due("alive() when none waits", heap.alive(), 0x7FFFF);
    }

    static void ringsWithoutARoot(Check check) {
        EphemeronHeap heap = Heaps.unrooted(PLAIN, PLAIN, WEAK, PLAIN);
        heap.point(0, 0, 1);
        heap.point(1, 1, 0);
        heap.point(2, 1, 2);
        heap.point(3, 0, 3);
        check.due("alive(): the set is the least", heap.alive(), 0);
        heap.root(3, 1);
        check.due("alive() with a root to one of a ring", heap.alive(), Check.set(0, 1));
    }

    static void throughTheQueue(Check check) {
        for (int kind = PLAIN; kind <= WEAK; kind++) {
            EphemeronHeap heap = Heaps.unrooted(kind, PLAIN);
            heap.point(0, 1, 1);
            heap.watch(0);
            heap.clean();
            check.due("alive() through one in the queue", heap.alive(), Check.set(0, 1));
            heap.take(0);
            check.due("alive() when a root took it", heap.alive(), Check.set(0, 1));
            heap.root(0, NONE);
            check.due("alive() when it is let go", heap.alive(), 0);
        }
    }

    static void watchingKeepsNothingAlive(Check check) {
        EphemeronHeap heap = Heaps.unrooted(PLAIN);
        heap.watch(0);
        check.due("alive()", heap.alive(), 0);
    }

    static void aNumberUsedAgain(Check check) {
        EphemeronHeap heap = Heaps.gone(PLAIN);
        heap.make(PLAIN, 0);
        check.due("alive() when a root points to it", heap.alive(), Check.set(0));
        heap.root(0, NONE);
        check.due("alive() when none does", heap.alive(), 0);
    }

    public static void main(String[] args) {
        Runner.run(Promise10Test.class);
    }
}

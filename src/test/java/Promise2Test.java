/** Promise 2, make: an object of a kind with the least free number; NONE for a wrong kind or r; FULL when there are twenty. */
public final class Promise2Test {
    private static final int NONE = Heaps.NONE;
    private static final int FULL = Heaps.FULL;
    private static final int PLAIN = Heaps.PLAIN;
    private static final int WEAK = Heaps.WEAK;
    private static final int PAIR = Heaps.PAIR;
    private static final int[] KINDS_BELOW = {-1, -2, -3, Integer.MIN_VALUE};
    private static final int[] KINDS_ABOVE = {3, 4, 32, Integer.MAX_VALUE};

    private static void refused(Check check, int kind, int r) {
        check.changesNothing("make(" + kind + ", " + r + ")", Heaps::mixed, heap -> heap.make(kind, r), NONE);
    }

    private static void refusedWhenFull(Check check, int kind, int r, int want) {
        String call = "make(" + kind + ", " + r + ") when there are twenty";
        check.changesNothing(call, Heaps::mixedAndFull, heap -> heap.make(kind, r), want);
    }

    static void kindBelow(Check check) {
        for (int kind : KINDS_BELOW) {
            refused(check, kind, 0);
        }
    }

    static void kindAbove(Check check) {
        for (int kind : KINDS_ABOVE) {
            refused(check, kind, 0);
        }
    }

    static void rootBelow(Check check) {
        for (int r : Heaps.ROOTS_BELOW) {
            refused(check, PLAIN, r);
        }
    }

    static void rootAbove(Check check) {
        for (int r : Heaps.ROOTS_ABOVE) {
            refused(check, PLAIN, r);
        }
    }

    static void kindAndRootWrong(Check check) {
        refused(check, -1, -1);
        refused(check, -1, 4);
        refused(check, 3, -1);
        refused(check, 3, 4);
    }

    static void kindsAndRootsFromLeastToGreatest(Check check) {
        for (int kind = PLAIN; kind <= PAIR; kind++) {
            for (int r = 0; r < 4; r++) {
                EphemeronHeap heap = new EphemeronHeap();
                String call = "make(" + kind + ", " + r + ")";
                check.due(call, heap.make(kind, r), 0);
                check.due("kind after " + call, heap.kind(0), kind);
                for (int other = 0; other < 4; other++) {
                    check.due("rootOf(" + other + ") after " + call, heap.rootOf(other), other == r ? 0 : NONE);
                }
            }
        }
    }

    static void fieldsPointToNothing(Check check) {
        for (int kind = PLAIN; kind <= PAIR; kind++) {
            EphemeronHeap heap = new EphemeronHeap();
            int o = heap.make(kind, 0);
            check.due("a of kind " + kind, heap.field(o, 0), NONE);
            check.due("b of kind " + kind, heap.field(o, 1), NONE);
        }
    }

    static void theRootLetsItsOldObjectGo(Check check) {
        EphemeronHeap heap = new EphemeronHeap();
        heap.make(PLAIN, 2);
        check.due("make()", heap.make(PLAIN, 2), 1);
        check.due("rootOf(2)", heap.rootOf(2), 1);
        check.due("alive()", heap.alive(), Check.set(1));
        check.due("there(): nothing is cleaned", heap.there(), Check.set(0, 1));
    }

    static void theTwentiethIsMade(Check check) {
        EphemeronHeap heap = new EphemeronHeap();
        for (int o = 0; o < 20; o++) {
            check.due("make() with " + o + " objects", heap.make(o % 3, o % 4), o);
        }
        check.due("the 21st make()", heap.make(PLAIN, 0), FULL);
    }

    static void fullChangesNothing(Check check) {
        for (int kind = PLAIN; kind <= PAIR; kind++) {
            for (int r = 0; r < 4; r++) {
                refusedWhenFull(check, kind, r, FULL);
            }
        }
    }

    static void fullWithAllInTheQueue(Check check) {
        check.changesNothing("make(0, 0)", Heaps::twentyQueued, heap -> heap.make(PLAIN, 0), FULL);
    }

    static void wrongKindIsTestedBeforeFull(Check check) {
        refusedWhenFull(check, -1, 0, NONE);
        refusedWhenFull(check, 3, 0, NONE);
    }

    static void wrongRootIsTestedBeforeFull(Check check) {
        refusedWhenFull(check, PLAIN, -1, NONE);
        refusedWhenFull(check, PLAIN, 4, NONE);
    }

    static void nothingIsCleanedForAnObject(Check check) {
        EphemeronHeap heap = Heaps.twenty();
        check.due("alive()", heap.alive(), 0);
        check.due("make() when none of twenty is alive", heap.make(PLAIN, 0), FULL);
        check.due("there()", heap.there(), Heaps.ALL_TWENTY);
        check.due("clean()", heap.clean(), 20);
        check.due("make() after cleaning", heap.make(PLAIN, 0), 0);
    }

    static void oneIsFreeAfterTwenty(Check check) {
        EphemeronHeap heap = new EphemeronHeap();
        for (int o = 0; o < 20; o++) {
            heap.make(PLAIN, 0);
            heap.point(o, 1, o == 8 ? 6 : o - 1);
        }
        check.due("make() of the 21st", heap.make(PLAIN, 1), FULL);
        check.due("clean()", heap.clean(), 1);
        check.due("make() of the one that is free", heap.make(PLAIN, 1), 7);
        check.due("make() of the 21st again", heap.make(PLAIN, 1), FULL);
    }

    static void theLeastFreeNumber(Check check) {
        EphemeronHeap heap = Heaps.unrooted(PLAIN, PLAIN, PLAIN, PLAIN, PLAIN, PLAIN);
        heap.root(0, 1);
        heap.root(1, 3);
        check.due("clean()", heap.clean(), 4);
        int[] due = {0, 2, 4, 5, 6, 7};
        for (int o : due) {
            check.due("make()", heap.make(PLAIN, 2), o);
        }
    }

    static void aNumberUsedAgainHasItsNewKind(Check check) {
        for (int old = PLAIN; old <= PAIR; old++) {
            for (int kind = PLAIN; kind <= PAIR; kind++) {
                EphemeronHeap heap = Heaps.gone(old);
                check.due("make()", heap.make(kind, 0), 0);
                check.due("kind(0), formerly " + old, heap.kind(0), kind);
            }
        }
    }

    static void aNumberUsedAgainHasEmptyFields(Check check) {
        for (int old = PLAIN; old <= PAIR; old++) {
            EphemeronHeap heap = Heaps.gone(old);
            heap.make(PLAIN, 0);
            check.due("field(0, 0), formerly of kind " + old, heap.field(0, 0), NONE);
            check.due("field(0, 1), formerly of kind " + old, heap.field(0, 1), NONE);
        }
    }

    static void aNumberUsedAgainIsNeitherWatchedNorQueued(Check check) {
        EphemeronHeap heap = Heaps.gone(PLAIN);
        heap.make(PLAIN, 0);
        check.due("watched()", heap.watched(), 0);
        check.due("queued()", heap.queued(), 0);
        heap.root(0, NONE);
        check.due("clean()", heap.clean(), 1);
    }

    static void aNumberUsedAgainIsNotPointedTo(Check check) {
        EphemeronHeap heap = Heaps.unrooted(WEAK, PAIR, PLAIN);
        heap.root(0, 0);
        heap.root(1, 1);
        heap.point(0, 0, 2);
        heap.point(1, 0, 2);
        heap.point(1, 1, 2);
        heap.clean();
        check.due("make()", heap.make(PLAIN, 2), 2);
        check.due("the weak one's a", heap.field(0, 0), NONE);
        check.due("the pair's a", heap.field(1, 0), NONE);
        check.due("the pair's b", heap.field(1, 1), NONE);
    }

    public static void main(String[] args) {
        Runner.run(Promise2Test.class);
    }
}

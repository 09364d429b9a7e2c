/** Promise 4, root: root r to object p or to nothing; false, changing nothing, for a wrong r or p. */
public final class Promise4Test {
    private static final int NONE = Heaps.NONE;

    private static void refused(Check check, int r, int p) {
        String call = "root(" + r + ", " + p + ")";
        check.changesNothing(call, Heaps::mixed, heap -> heap.root(r, p) ? 1 : 0, 0);
    }

    private static void refusedToTarget(Check check, int p) {
        refused(check, 0, p);
        refused(check, 3, p);
    }

    static void rootBelow(Check check) {
        for (int r : Heaps.ROOTS_BELOW) {
            refused(check, r, 0);
        }
    }

    static void rootAbove(Check check) {
        for (int r : Heaps.ROOTS_ABOVE) {
            refused(check, r, 0);
        }
    }

    static void wrongRootToNothing(Check check) {
        for (int r : Heaps.ROOTS_BELOW) {
            refused(check, r, NONE);
        }
        for (int r : Heaps.ROOTS_ABOVE) {
            refused(check, r, NONE);
        }
    }

    static void targetBelow(Check check) {
        for (int p : Heaps.NUMBERS_BELOW) {
            refusedToTarget(check, p);
        }
    }

    static void targetAbove(Check check) {
        for (int p : Heaps.NUMBERS_ABOVE) {
            refusedToTarget(check, p);
        }
    }

    static void targetNeverMade(Check check) {
        for (int p : Heaps.MIXED_NEVER_MADE) {
            refusedToTarget(check, p);
        }
    }

    static void targetGone(Check check) {
        refusedToTarget(check, Heaps.MIXED_GONE);
    }

    static void rootAndTargetWrong(Check check) {
        refused(check, -1, 20);
        refused(check, 4, 20);
        refused(check, 4, Heaps.MIXED_GONE);
    }

    static void targetNone(Check check) {
        EphemeronHeap heap = Heaps.mixed();
        for (int r = 0; r < 4; r++) {
            check.due("root(" + r + ", NONE)", heap.root(r, NONE), true);
            check.due("rootOf(" + r + ")", heap.rootOf(r), NONE);
            check.due("root(" + r + ", NONE) again", heap.root(r, NONE), true);
        }
        check.due("alive(): the queue alone", heap.alive(), Check.set(Heaps.MIXED_QUEUE));
    }

    static void rootsFromLeastToGreatest(Check check) {
        for (int r = 0; r < 4; r++) {
            EphemeronHeap heap = Heaps.unrooted(Heaps.PLAIN, Heaps.PLAIN);
            check.due("root(" + r + ", 1)", heap.root(r, 1), true);
            for (int other = 0; other < 4; other++) {
                check.due("rootOf(" + other + ")", heap.rootOf(other), other == r ? 1 : NONE);
            }
        }
    }

    static void theLeastAndTheGreatestNumber(Check check) {
        EphemeronHeap heap = Heaps.twenty();
        check.due("root(0, 0)", heap.root(0, 0), true);
        check.due("root(3, 19)", heap.root(3, 19), true);
        check.due("rootOf(0)", heap.rootOf(0), 0);
        check.due("rootOf(3)", heap.rootOf(3), 19);
        check.due("alive()", heap.alive(), Check.set(0, 19));
    }

    static void fourRootsToOneObject(Check check) {
        EphemeronHeap heap = Heaps.unrooted(Heaps.PLAIN);
        for (int r = 0; r < 4; r++) {
            check.due("root(" + r + ", 0)", heap.root(r, 0), true);
        }
        for (int r = 0; r < 3; r++) {
            heap.root(r, NONE);
            check.due("alive() with root " + r + " away", heap.alive(), Check.set(0));
        }
        heap.root(3, NONE);
        check.due("alive() with all away", heap.alive(), 0);
    }

    static void anObjectThatIsThereButNotAlive(Check check) {
        EphemeronHeap heap = Heaps.mixed();
        check.due("root()", heap.root(3, Heaps.MIXED_NOT_ALIVE), true);
        check.due("rootOf(3)", heap.rootOf(3), Heaps.MIXED_NOT_ALIVE);
        check.due("clean(): nothing is gone", heap.clean(), 0);
        check.due("queued(): it does not come in", heap.queued(), 2);
    }

    static void anObjectInTheQueue(Check check) {
        EphemeronHeap heap = Heaps.mixed();
        check.due("root()", heap.root(3, Heaps.MIXED_QUEUE[1]), true);
        check.due("queued(): it stays there", heap.queued(), 2);
    }

    static void aNumberUsedAgain(Check check) {
        EphemeronHeap heap = Heaps.gone(Heaps.PLAIN);
        check.due("root(1, 0) when it is gone", heap.root(1, 0), false);
        heap.make(Heaps.WEAK, 0);
        check.due("root(1, 0) when it is used again", heap.root(1, 0), true);
        check.due("rootOf(1)", heap.rootOf(1), 0);
    }

    public static void main(String[] args) {
        Runner.run(Promise4Test.class);
    }
}

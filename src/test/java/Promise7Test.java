/** Promise 7, take: the queue's first object, which root r then points to; NONE for an empty queue or a wrong r. */
public final class Promise7Test {
    private static final int NONE = Heaps.NONE;
    private static final int PLAIN = Heaps.PLAIN;

    private static EphemeronHeap emptyQueue() {
        EphemeronHeap heap = Heaps.mixed();
        heap.take(3);
        heap.take(3);
        return heap;
    }

    static void emptyQueueChangesNothing(Check check) {
        for (int n = 0; n < 4; n++) {
            int r = n;
            check.changesNothing("take(" + r + ") of an empty queue", Promise7Test::emptyQueue, heap -> heap.take(r), NONE);
        }
    }

    static void emptyQueueOfAHeapThatNeverCleaned(Check check) {
        check.changesNothing("take(0)", Heaps::twenty, heap -> heap.take(0), NONE);
    }

    static void rootBelow(Check check) {
        for (int r : Heaps.ROOTS_BELOW) {
            check.changesNothing("take(" + r + ")", Heaps::mixed, heap -> heap.take(r), NONE);
        }
    }

    static void rootAbove(Check check) {
        for (int r : Heaps.ROOTS_ABOVE) {
            check.changesNothing("take(" + r + ")", Heaps::mixed, heap -> heap.take(r), NONE);
        }
    }

    static void emptyQueueAndWrongRoot(Check check) {
        check.changesNothing("take(-1) of an empty queue", Promise7Test::emptyQueue, heap -> heap.take(-1), NONE);
        check.changesNothing("take(4) of an empty queue", Promise7Test::emptyQueue, heap -> heap.take(4), NONE);
    }

    static void rootsFromLeastToGreatest(Check check) {
        for (int r = 0; r < 4; r++) {
            EphemeronHeap heap = Heaps.mixed();
            check.due("take(" + r + ")", heap.take(r), Heaps.MIXED_QUEUE[0]);
            for (int other = 0; other < 4; other++) {
                int due = other == r ? Heaps.MIXED_QUEUE[0] : other < 3 ? other : NONE;
                check.due("rootOf(" + other + ")", heap.rootOf(other), due);
            }
            check.due("queued()", heap.queued(), 1);
        }
    }

    static void theFirstComesFirst(Check check) {
        EphemeronHeap heap = Heaps.mixed();
        check.due("take(0)", heap.take(0), Heaps.MIXED_QUEUE[0]);
        check.due("take(0)", heap.take(0), Heaps.MIXED_QUEUE[1]);
        check.due("take(0) of an empty queue", heap.take(0), NONE);
        check.due("rootOf(0)", heap.rootOf(0), Heaps.MIXED_QUEUE[1]);
    }

    static void theRootLetsItsOldObjectGo(Check check) {
        EphemeronHeap heap = Heaps.unrooted(PLAIN, PLAIN);
        heap.root(1, 0);
        heap.watch(1);
        heap.clean();
        heap.take(1);
        check.due("alive()", heap.alive(), Check.set(1));
        check.due("there()", heap.there(), Check.set(0, 1));
    }

    static void theTakenOneLivesByTheRootAlone(Check check) {
        EphemeronHeap heap = Heaps.unrooted(PLAIN);
        heap.watch(0);
        heap.clean();
        heap.take(2);
        check.due("clean() while the root points to it", heap.clean(), 0);
        heap.root(2, NONE);
        check.due("clean() when the root does not", heap.clean(), 1);
    }

    static void theTakenOneIsNotWatchedAnyMore(Check check) {
        EphemeronHeap heap = Heaps.unrooted(PLAIN);
        heap.watch(0);
        heap.clean();
        heap.take(0);
        check.due("watched()", heap.watched(), 0);
    }

    static void theTakenOneStaysWatchedIfItWasInTheQueue(Check check) {
        EphemeronHeap heap = Heaps.mixed();
        heap.take(3);
        check.due("take(3)", heap.take(3), 7);
        check.due("watched()", heap.watched(), Check.set(0, 3, 7));
    }

    static void twentyAreTaken(Check check) {
        EphemeronHeap heap = Heaps.twentyQueued();
        for (int o = 0; o < 20; o++) {
            check.due("take(3)", heap.take(3), o);
            check.due("queued()", heap.queued(), 19 - o);
        }
        check.due("take(3) of an empty queue", heap.take(3), NONE);
        check.due("rootOf(3)", heap.rootOf(3), 19);
    }

    /** More objects go through the queue than it has places. */
    static void theQueueIsUsedAgainAndAgain(Check check) {
        EphemeronHeap heap = Heaps.unrooted(PLAIN, PLAIN);
        for (int round = 0; round < 30; round++) {
            heap.watch(0);
            heap.watch(1);
            heap.clean();
            check.due("queued() in round " + round, heap.queued(), 2);
            check.due("take(0) in round " + round, heap.take(0), 0);
            check.due("take(0) in round " + round, heap.take(0), 1);
            check.due("take(0) of an empty queue in round " + round, heap.take(0), NONE);
            heap.root(0, 0);
            heap.root(1, 1);
            heap.clean();
            heap.root(0, NONE);
            heap.root(1, NONE);
        }
    }

    public static void main(String[] args) {
        Runner.run(Promise7Test.class);
    }
}

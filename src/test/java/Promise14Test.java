/** Promise 14, queued: how many objects are in the queue. */
public final class Promise14Test {
    static void emptyQueue(Check check) {
        check.changesNothing("queued()", EphemeronHeap::new, EphemeronHeap::queued, 0);
        check.changesNothing("queued()", Heaps::twenty, EphemeronHeap::queued, 0);
    }

    static void two(Check check) {
        check.changesNothing("queued()", Heaps::mixed, EphemeronHeap::queued, 2);
    }

    static void twenty(Check check) {
        check.changesNothing("queued()", Heaps::twentyQueued, EphemeronHeap::queued, 20);
    }

    static void watchingAloneQueuesNothing(Check check) {
        EphemeronHeap heap = Heaps.unrooted(Heaps.PLAIN);
        heap.watch(0);
        check.due("queued() before cleaning", heap.queued(), 0);
        heap.clean();
        check.due("queued() after it", heap.queued(), 1);
    }

    static void oneLessAfterEachTake(Check check) {
        EphemeronHeap heap = Heaps.mixed();
        heap.take(3);
        check.due("queued()", heap.queued(), 1);
        heap.take(3);
        check.due("queued()", heap.queued(), 0);
        heap.take(3);
        check.due("queued() after take() of an empty queue", heap.queued(), 0);
    }

    static void asManyAfterARefusedTake(Check check) {
        EphemeronHeap heap = Heaps.mixed();
        heap.take(-1);
        heap.take(4);
        check.due("queued()", heap.queued(), 2);
    }

    static void oneThatIsNotWatchedIsGone(Check check) {
        EphemeronHeap heap = Heaps.twenty();
        heap.watch(19);
        heap.clean();
        check.due("queued()", heap.queued(), 1);
    }

    static void moreCleaningsAddToIt(Check check) {
        EphemeronHeap heap = Heaps.twenty();
        for (int o = 0; o < 20; o++) {
            heap.watch(o);
        }
        heap.root(0, 0);
        heap.root(1, 19);
        heap.clean();
        check.due("queued()", heap.queued(), 18);
        heap.root(0, Heaps.NONE);
        heap.clean();
        check.due("queued()", heap.queued(), 19);
        heap.root(1, Heaps.NONE);
        heap.clean();
        check.due("queued()", heap.queued(), 20);
        heap.clean();
        check.due("queued()", heap.queued(), 20);
    }

    public static void main(String[] args) {
        Runner.run(Promise14Test.class);
    }
}

/** Promises 5 to 7, 14 and 15: watching, cleaning, and the queue. */
public final class CleaningTest {
    private static final int NONE = EphemeronHeap.NONE;
    private static final int PLAIN = 0;
    private static final int WEAK = 1;
    private static final int PAIR = 2;
    private static final Check check = new Check();

    private static void promise5And15() {
        EphemeronHeap heap = Check.unrooted(PLAIN, WEAK, PAIR);
        check.due("15: nobody", heap.watched(), 0);
        check.due("5: watch(2)", heap.watch(2), true);
        check.due("15: watched()", heap.watched(), Check.set(2));
        check.due("5: watch(0)", heap.watch(0), true);
        check.due("5: watch(0) again", heap.watch(0), true);
        check.due("15: watched()", heap.watched(), Check.set(0, 2));
        for (int o : new int[] {-1, -2, 3, 19, 20, 32, 33, Integer.MIN_VALUE, Integer.MAX_VALUE}) {
            check.due("5: watch(" + o + ")", heap.watch(o), false);
        }
        check.due("15: after wrong watch()", heap.watched(), Check.set(0, 2));
        heap.clean();
        check.due("5: watch() of one that is gone", heap.watch(1), false);
        check.due("15: those that came into the queue", heap.watched(), 0);
        check.due("5: watch() of one in the queue", heap.watch(0), true);
        check.due("15: watched()", heap.watched(), Check.set(0));
    }

    private static void watchedStaysOnTheLiving() {
        EphemeronHeap heap = Check.unrooted(PLAIN, PLAIN);
        heap.root(0, 0);
        heap.watch(0);
        heap.watch(1);
        check.due("6: clean()", heap.clean(), 0);
        check.due("15: the living one is still watched", heap.watched(), Check.set(0));
        check.due("14: only the other one is queued", heap.queued(), 1);
        check.due("7: take(1)", heap.take(1), 1);
        check.due("15: taking changes nothing there", heap.watched(), Check.set(0));
    }

    private static void cleanCountsTheGone() {
        EphemeronHeap heap = Check.unrooted(PLAIN, WEAK, PAIR, PLAIN, PLAIN);
        heap.root(2, 3);
        heap.point(3, 0, 4);
        check.due("6: clean()", heap.clean(), 3);
        check.due("9: there()", heap.there(), Check.set(3, 4));
        check.due("8: objects()", heap.objects(), 2);
        check.due("6: clean() again", heap.clean(), 0);
        check.due("13: roots stay", heap.rootOf(2), 3);
        check.due("11: a plain field stays", heap.field(3, 0), 4);
        heap.root(2, NONE);
        check.due("6: clean() of the rest", heap.clean(), 2);
        check.due("9: there()", heap.there(), 0);
    }

    private static void cleanOfTwenty() {
        EphemeronHeap heap = new EphemeronHeap();
        for (int o = 0; o < 20; o++) {
            heap.make(o % 3, 3);
        }
        heap.root(3, NONE);
        check.due("6: clean() of twenty", heap.clean(), 20);
        check.due("8: objects()", heap.objects(), 0);
        check.due("2: make()", heap.make(PLAIN, 0), 0);
    }

    private static void watchedOnesKeepWhatTheyHold() {
        EphemeronHeap heap = Check.unrooted(PLAIN, PLAIN, PLAIN, PLAIN);
        heap.point(1, 0, 2);
        heap.watch(1);
        check.due("6: clean()", heap.clean(), 2);
        check.due("9: there()", heap.there(), Check.set(1, 2));
        check.due("14: queued()", heap.queued(), 1);
        check.due("11: its field stays", heap.field(1, 0), 2);
        check.due("6: clean() while it is queued", heap.clean(), 0);
        check.due("14: it is queued once", heap.queued(), 1);
        check.due("7: take(3)", heap.take(3), 1);
        heap.root(3, NONE);
        check.due("6: clean() when let go", heap.clean(), 2);
        check.due("14: it is not told twice", heap.queued(), 0);
    }

    private static void aWatchedOneHeldByAWatchedOne() {
        EphemeronHeap heap = Check.unrooted(PLAIN, PLAIN, PLAIN);
        heap.point(0, 0, 1);
        heap.point(2, 0, 0);
        heap.watch(0);
        heap.watch(1);
        heap.watch(2);
        check.due("6: clean()", heap.clean(), 0);
        check.due("14: all three come into the queue", heap.queued(), 3);
        check.due("7: the least first", heap.take(0), 0);
        check.due("7: then the next", heap.take(0), 1);
        check.due("7: then the greatest", heap.take(0), 2);
    }

    private static void theQueuesOrder() {
        EphemeronHeap heap = Check.unrooted(PLAIN, PLAIN, PLAIN, PLAIN, PLAIN);
        heap.root(0, 0);
        heap.root(1, 2);
        heap.watch(4);
        heap.watch(1);
        heap.watch(3);
        check.due("6: clean()", heap.clean(), 0);
        heap.root(0, NONE);
        heap.root(1, NONE);
        heap.watch(2);
        heap.watch(0);
        check.due("6: clean()", heap.clean(), 0);
        check.due("14: queued()", heap.queued(), 5);
        int[] due = {1, 3, 4, 0, 2};
        for (int i = 0; i < 5; i++) {
            check.due("7: take(2)", heap.take(2), due[i]);
            check.due("13: rootOf(2)", heap.rootOf(2), due[i]);
            check.due("14: queued()", heap.queued(), 4 - i);
        }
        check.due("6: only the last one lives", heap.clean(), 4);
        check.due("9: there()", heap.there(), Check.set(2));
    }

    private static void aFullQueue() {
        EphemeronHeap heap = new EphemeronHeap();
        for (int o = 0; o < 20; o++) {
            heap.make(PLAIN, 0);
            heap.watch(o);
        }
        heap.root(0, NONE);
        check.due("6: clean()", heap.clean(), 0);
        check.due("14: twenty in the queue", heap.queued(), 20);
        check.due("10: alive()", heap.alive(), 0xFFFFF);
        for (int o = 0; o < 20; o++) {
            heap.watch(o);
        }
        check.due("6: clean() with all in the queue and watched", heap.clean(), 0);
        check.due("14: still twenty", heap.queued(), 20);
        check.due("15: still watched", heap.watched(), 0xFFFFF);
        for (int round = 0; round < 2; round++) {
            check.due("7: take(0)", heap.take(0), 2 * round);
            check.due("7: take(0)", heap.take(0), 2 * round + 1);
            check.due("6: clean()", heap.clean(), 0);
            check.due("14: the one or two let go come back", heap.queued(), 19);
        }
    }

    private static void promise7() {
        EphemeronHeap heap = Check.unrooted(PLAIN, PLAIN, PLAIN);
        heap.root(1, 2);
        check.due("7: take(0) of an empty queue", heap.take(0), NONE);
        check.due("7: take(1) of an empty queue", heap.take(1), NONE);
        check.due("13: the root stays", heap.rootOf(1), 2);
        heap.watch(0);
        heap.watch(1);
        heap.clean();
        String before = Check.state(heap);
        for (int r : new int[] {-1, -2, 4, 5, 32, Integer.MIN_VALUE, Integer.MAX_VALUE}) {
            check.due("7: take(" + r + ")", heap.take(r), NONE);
        }
        check.same("7: after wrong take()", Check.state(heap), before);
        check.due("7: take(1)", heap.take(1), 0);
        check.due("13: rootOf(1)", heap.rootOf(1), 0);
        check.due("13: rootOf(0)", heap.rootOf(0), NONE);
        check.due("10: the root's old object is let go", heap.alive(), Check.set(0, 1));
        check.due("7: take(0)", heap.take(0), 1);
        check.due("7: take(0) of an empty queue", heap.take(0), NONE);
        check.due("13: the root stays", heap.rootOf(0), 1);
    }

    private static void weakFields() {
        EphemeronHeap heap = Check.unrooted(WEAK, WEAK, PLAIN, PLAIN);
        heap.root(0, 0);
        heap.root(1, 1);
        heap.root(2, 2);
        heap.point(0, 0, 3);
        heap.point(0, 1, 2);
        heap.point(1, 0, 2);
        check.due("6: clean()", heap.clean(), 1);
        check.due("11: a weak a to one that is gone", heap.field(0, 0), NONE);
        check.due("11: a weak b", heap.field(0, 1), 2);
        check.due("11: a weak a to one that lives", heap.field(1, 0), 2);
    }

    private static void weakFieldsToTheQueue() {
        EphemeronHeap heap = Check.unrooted(WEAK, WEAK, PLAIN, PLAIN, WEAK);
        heap.root(0, 0);
        heap.root(1, 1);
        heap.root(2, 4);
        heap.point(0, 0, 2);
        heap.point(1, 0, 3);
        heap.point(2, 0, 3);
        heap.watch(2);
        check.due("6: clean()", heap.clean(), 0);
        check.due("11: a weak a to one that came into the queue", heap.field(0, 0), NONE);
        check.due("11: a weak a to one that lives because of it", heap.field(1, 0), NONE);
        check.due("11: a plain a to one that lives because of it", heap.field(2, 0), 3);
        heap.point(0, 0, 2);
        heap.point(1, 0, 3);
        check.due("6: clean() while it is queued", heap.clean(), 0);
        check.due("11: a weak a to one that was in the queue before", heap.field(0, 0), 2);
        check.due("11: a weak a to one that lived because of the queue before", heap.field(1, 0), 3);
    }

    private static void weakFieldsOfTheQueued() {
        EphemeronHeap heap = Check.unrooted(WEAK, WEAK, PLAIN, PLAIN);
        heap.root(0, 3);
        heap.point(0, 0, 2);
        heap.point(0, 1, 2);
        heap.point(1, 0, 3);
        heap.watch(0);
        heap.watch(1);
        check.due("6: clean()", heap.clean(), 0);
        check.due("11: a queued weak one's a to one that was not alive", heap.field(0, 0), NONE);
        check.due("11: a queued weak one's b", heap.field(0, 1), 2);
        check.due("11: a queued weak one's a to one that was alive", heap.field(1, 0), 3);
    }

    private static void aWeakOneOfItself() {
        EphemeronHeap heap = Check.unrooted(WEAK, WEAK);
        heap.root(0, 0);
        heap.point(0, 0, 0);
        heap.point(1, 0, 1);
        heap.watch(1);
        check.due("6: clean()", heap.clean(), 0);
        check.due("11: a living weak one's a to itself", heap.field(0, 0), 0);
        check.due("11: a queued weak one's a to itself", heap.field(1, 0), NONE);
    }

    private static void pairFields() {
        EphemeronHeap heap = Check.unrooted(PAIR, PAIR, PAIR, PLAIN, PLAIN);
        heap.root(0, 0);
        heap.root(1, 1);
        heap.root(2, 2);
        heap.root(3, 3);
        heap.point(0, 0, 4);
        heap.point(0, 1, 3);
        heap.point(1, 1, 3);
        heap.point(2, 0, 3);
        heap.point(2, 1, 2);
        check.due("6: clean()", heap.clean(), 1);
        check.due("11: a pair's a to one that is gone", heap.field(0, 0), NONE);
        check.due("11: that pair's b, though it lives", heap.field(0, 1), NONE);
        check.due("11: a pair's a to nothing", heap.field(1, 0), NONE);
        check.due("11: that pair's b, though it lives", heap.field(1, 1), NONE);
        check.due("11: a pair's a to one that lives", heap.field(2, 0), 3);
        check.due("11: that pair's b", heap.field(2, 1), 2);
    }

    private static void aLivingPairMayHoldNothing() {
        EphemeronHeap heap = Check.unrooted(PAIR, PLAIN);
        heap.root(0, 0);
        heap.root(1, 1);
        heap.point(0, 0, 1);
        check.due("6: clean()", heap.clean(), 0);
        check.due("11: a pair's a stays without a b", heap.field(0, 0), 1);
        check.due("11: its b", heap.field(0, 1), NONE);
    }

    private static void pairFieldsToTheQueue() {
        EphemeronHeap heap = Check.unrooted(PAIR, PLAIN, PLAIN, PAIR, PLAIN);
        heap.root(0, 0);
        heap.root(1, 3);
        heap.point(0, 0, 1);
        heap.point(0, 1, 2);
        heap.point(1, 0, 4);
        heap.point(3, 0, 4);
        heap.point(3, 1, 4);
        heap.watch(1);
        check.due("6: clean()", heap.clean(), 0);
        check.due("11: a pair's a to one that came into the queue", heap.field(0, 0), 1);
        check.due("11: that pair's b", heap.field(0, 1), 2);
        check.due("11: a pair's a to one that lives because of it", heap.field(3, 0), 4);
        check.due("11: that pair's b", heap.field(3, 1), 4);
        check.due("10: alive()", heap.alive(), Check.set(0, 1, 2, 3, 4));
    }

    private static void pairFieldsOfTheQueued() {
        EphemeronHeap heap = Check.unrooted(PAIR, PLAIN, PAIR, PLAIN);
        heap.point(0, 0, 1);
        heap.point(0, 1, 1);
        heap.point(2, 0, 2);
        heap.point(2, 1, 3);
        heap.watch(0);
        heap.watch(2);
        check.due("6: clean()", heap.clean(), 1);
        check.due("11: a queued pair's a to one that is gone", heap.field(0, 0), NONE);
        check.due("11: that pair's b", heap.field(0, 1), NONE);
        check.due("11: a queued pair that is its own a", heap.field(2, 0), 2);
        check.due("11: that pair's b", heap.field(2, 1), 3);
        check.due("9: there()", heap.there(), Check.set(0, 2, 3));
    }

    private static void plainFieldsStay() {
        EphemeronHeap heap = Check.unrooted(PLAIN, PLAIN, PLAIN);
        heap.point(0, 1, 2);
        heap.point(2, 0, 0);
        heap.watch(2);
        check.due("6: clean()", heap.clean(), 1);
        check.due("11: plain b, a nothing", heap.field(0, 1), 2);
        check.due("11: plain a", heap.field(2, 0), 0);
    }

    public static void main(String[] args) {
        promise5And15();
        watchedStaysOnTheLiving();
        cleanCountsTheGone();
        cleanOfTwenty();
        watchedOnesKeepWhatTheyHold();
        aWatchedOneHeldByAWatchedOne();
        theQueuesOrder();
        aFullQueue();
        promise7();
        weakFields();
        weakFieldsToTheQueue();
        weakFieldsOfTheQueued();
        aWeakOneOfItself();
        pairFields();
        aLivingPairMayHoldNothing();
        pairFieldsToTheQueue();
        pairFieldsOfTheQueued();
        plainFieldsStay();
        check.end();
    }
}

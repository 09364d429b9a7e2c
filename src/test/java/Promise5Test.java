/** Promise 5, watch: true, also when it was watched; false when the object is not there. */
public final class Promise5Test {
    private static final int PLAIN = Heaps.PLAIN;

    private static void refused(Check check, int o) {
        check.changesNothing("watch(" + o + ")", Heaps::mixed, heap -> heap.watch(o) ? 1 : 0, 0);
    }

    static void objectBelow(Check check) {
        for (int o : Heaps.NUMBERS_BELOW) {
            refused(check, o);
        }
    }

    static void objectAbove(Check check) {
        for (int o : Heaps.NUMBERS_ABOVE) {
            refused(check, o);
        }
    }

    static void objectNone(Check check) {
        refused(check, Heaps.NONE);
    }

    static void objectNeverMade(Check check) {
        for (int o : Heaps.MIXED_NEVER_MADE) {
            refused(check, o);
        }
    }

    static void objectGone(Check check) {
        refused(check, Heaps.MIXED_GONE);
    }

    static void watchedAlready(Check check) {
        check.changesNothing("watch(0) again", Heaps::mixed, heap -> heap.watch(0) ? 1 : 0, 1);
        check.changesNothing("watch(3) again", Heaps::mixed, heap -> heap.watch(3) ? 1 : 0, 1);
    }

    static void watchedTwiceIsToldOnce(Check check) {
        EphemeronHeap heap = Heaps.unrooted(PLAIN);
        check.due("watch(0)", heap.watch(0), true);
        check.due("watch(0) again", heap.watch(0), true);
        heap.clean();
        check.due("queued()", heap.queued(), 1);
        check.due("watched()", heap.watched(), 0);
    }

    static void everyNumberAlone(Check check) {
        for (int o = 0; o < 20; o++) {
            EphemeronHeap heap = Heaps.twenty();
            check.due("watch(" + o + ")", heap.watch(o), true);
            check.due("watched()", heap.watched(), Check.set(o));
        }
    }

    static void everyKind(Check check) {
        EphemeronHeap heap = Heaps.unrooted(Heaps.PLAIN, Heaps.WEAK, Heaps.PAIR);
        for (int o = 0; o < 3; o++) {
            check.due("watch(" + o + ")", heap.watch(o), true);
        }
        check.due("clean()", heap.clean(), 0);
        check.due("queued()", heap.queued(), 3);
    }

    static void oneThatIsThereButNotAlive(Check check) {
        EphemeronHeap heap = Heaps.unrooted(PLAIN);
        check.due("watch(0)", heap.watch(0), true);
        check.due("watched()", heap.watched(), Check.set(0));
        check.due("alive(): watching keeps nothing alive", heap.alive(), 0);
    }

    static void oneInTheQueue(Check check) {
        EphemeronHeap heap = Heaps.mixed();
        int o = Heaps.MIXED_QUEUE[0];
        check.due("watch()", heap.watch(o), true);
        check.due("watched()", heap.watched(), Check.set(0, 3, 5, 7));
        heap.take(3);
        heap.root(3, Heaps.NONE);
        heap.clean();
        check.due("queued(): it comes in once more", heap.queued(), 3);
    }

    static void aNumberUsedAgain(Check check) {
        EphemeronHeap heap = Heaps.gone(PLAIN);
        check.due("watch(0) when it is gone", heap.watch(0), false);
        heap.make(PLAIN, 0);
        check.due("watched(): it is not so from before", heap.watched(), 0);
        check.due("watch(0) when it is used again", heap.watch(0), true);
        check.due("watched()", heap.watched(), Check.set(0));
    }

    public static void main(String[] args) {
        Runner.run(Promise5Test.class);
    }
}

/** Promise 15, watched: bit o for each object o that is watched. */
public final class Promise15Test {
    static void none(Check check) {
        check.changesNothing("watched()", EphemeronHeap::new, EphemeronHeap::watched, 0);
        check.changesNothing("watched()", Heaps::twenty, EphemeronHeap::watched, 0);
    }

    static void some(Check check) {
        check.changesNothing("watched()", Heaps::mixed, EphemeronHeap::watched, Check.set(0, 3, 7));
    }

    static void fromOneToTwenty(Check check) {
        EphemeronHeap heap = Heaps.twenty();
        for (int o = 19; o >= 0; o--) {
            heap.watch(o);
            check.due("watched()", heap.watched(), Heaps.ALL_TWENTY >> o << o);
        }
    }

    static void refusedWatchesDoNotShow(Check check) {
        EphemeronHeap heap = Heaps.mixed();
        int[] wrong = {-1, -32, 8, 10, 19, 20, 32, 33};
        for (int o : wrong) {
            heap.watch(o);
            check.due("watched() after watch(" + o + ")", heap.watched(), Check.set(0, 3, 7));
        }
    }

    static void notThoseThatCameIntoTheQueue(Check check) {
        EphemeronHeap heap = Heaps.mixed();
        heap.clean();
        check.due("watched(): not 3; but 7, which was in the queue already", heap.watched(), Check.set(0, 7));
    }

    static void twentyComeIntoTheQueue(Check check) {
        check.changesNothing("watched()", Heaps::twentyQueued, EphemeronHeap::watched, 0);
    }

    static void twentyThatAreAliveStayWatched(Check check) {
        EphemeronHeap heap = Heaps.twentyQueued();
        for (int o = 0; o < 20; o++) {
            heap.watch(o);
        }
        heap.clean();
        check.due("watched()", heap.watched(), Heaps.ALL_TWENTY);
    }

    static void newObjectsAreNotWatched(Check check) {
        EphemeronHeap heap = Heaps.mixed();
        heap.make(Heaps.PLAIN, 3);
        check.due("watched()", heap.watched(), Check.set(0, 3, 7));
    }

    static void aNumberUsedAgain(Check check) {
        EphemeronHeap heap = Heaps.gone(Heaps.PLAIN);
        check.due("watched() when it is gone", heap.watched(), 0);
        heap.make(Heaps.PLAIN, 0);
        check.due("watched() when it is used again", heap.watched(), 0);
    }

    public static void main(String[] args) {
        Runner.run(Promise15Test.class);
    }
}

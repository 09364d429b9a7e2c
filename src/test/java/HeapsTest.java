/** The heaps that tests begin with are what they are said to be. */
public final class HeapsTest {
    static void mixed(Check check) {
        EphemeronHeap heap = Heaps.mixed();
        check.due("there()", heap.there(), Check.set(0, 1, 2, 3, 4, 5, 6, 7, 9));
        check.due("alive()", heap.alive(), Check.set(0, 1, 2, 4, 5, 6, 7, 9));
        check.due("watched()", heap.watched(), Check.set(0, 3, 7));
        check.due("queued()", heap.queued(), 2);
        for (int r = 0; r < 4; r++) {
            check.due("rootOf(" + r + ")", heap.rootOf(r), r < 3 ? r : Heaps.NONE);
        }
        check.due("take(3)", heap.take(3), Heaps.MIXED_QUEUE[0]);
        check.due("take(3)", heap.take(3), Heaps.MIXED_QUEUE[1]);
    }

    static void mixedAndFull(Check check) {
        EphemeronHeap heap = Heaps.mixedAndFull();
        check.due("there()", heap.there(), Heaps.ALL_TWENTY);
        check.due("alive()", heap.alive(), Check.set(0, 1, 2, 4, 5, 6, 7, 9, 19));
        check.due("watched()", heap.watched(), Check.set(0, 3, 7));
        check.due("queued()", heap.queued(), 2);
        for (int r = 0; r < 4; r++) {
            check.due("rootOf(" + r + ")", heap.rootOf(r), r < 3 ? r : 19);
        }
    }

    static void pairsInARow(Check check) {
        EphemeronHeap heap = Heaps.pairsInARow();
        check.due("there()", heap.there(), 0x7FFFF);
        for (int o = 0; o < 19; o++) {
            check.due("kind(" + o + ")", heap.kind(o), o >= 6 && o < 12 ? Heaps.PAIR : Heaps.PLAIN);
        }
    }

    static void twenty(Check check) {
        check.due("there()", Heaps.twenty().there(), Heaps.ALL_TWENTY);
        check.due("alive()", Heaps.twenty().alive(), 0);
        check.due("queued()", Heaps.twenty().queued(), 0);
    }

    static void twentyQueued(Check check) {
        check.due("there()", Heaps.twentyQueued().there(), Heaps.ALL_TWENTY);
        check.due("queued()", Heaps.twentyQueued().queued(), 20);
        check.due("watched()", Heaps.twentyQueued().watched(), 0);
    }

    static void gone(Check check) {
        check.due("there()", Heaps.gone(Heaps.PAIR).there(), 0);
        check.due("queued()", Heaps.gone(Heaps.PAIR).queued(), 0);
    }

    public static void main(String[] args) {
        Runner.run(HeapsTest.class);
    }
}

/** Promise 9, there: bit o for object o. */
public final class Promise9Test {
    static void none(Check check) {
        check.changesNothing("there()", EphemeronHeap::new, EphemeronHeap::there, 0);
    }

    static void fromOneToTwenty(Check check) {
        EphemeronHeap heap = new EphemeronHeap();
        for (int o = 0; o < 20; o++) {
            heap.make(o % 3, 0);
            check.due("there()", heap.there(), (1 << o + 1) - 1);
        }
    }

    static void notMoreThanTwenty(Check check) {
        EphemeronHeap heap = Heaps.twenty();
        heap.make(Heaps.PLAIN, 0);
        check.due("there() after a make() that answered FULL", heap.there(), Heaps.ALL_TWENTY);
    }

    static void everyNumberAlone(Check check) {
        for (int o = 0; o < 20; o++) {
            EphemeronHeap heap = Heaps.twenty();
            heap.root(0, o);
            heap.clean();
            check.due("there() with object " + o + " alone", heap.there(), Check.set(o));
        }
    }

    static void thoseThatAreNotAlive(Check check) {
        check.changesNothing("there()", Heaps::twenty, EphemeronHeap::there, Heaps.ALL_TWENTY);
    }

    static void thoseInTheQueue(Check check) {
        check.changesNothing("there()", Heaps::twentyQueued, EphemeronHeap::there, Heaps.ALL_TWENTY);
    }

    static void notThoseThatAreGone(Check check) {
        check.changesNothing("there()", Heaps::mixed, EphemeronHeap::there, Check.set(0, 1, 2, 3, 4, 5, 6, 7, 9));
    }

    static void aNumberUsedAgain(Check check) {
        EphemeronHeap heap = Heaps.gone(Heaps.PLAIN);
        check.due("there() when object 0 is gone", heap.there(), 0);
        heap.make(Heaps.PLAIN, 0);
        check.due("there() when its number is used again", heap.there(), Check.set(0));
    }

    public static void main(String[] args) {
        Runner.run(Promise9Test.class);
    }
}

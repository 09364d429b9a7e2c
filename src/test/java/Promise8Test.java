/** Promise 8, objects: how many there are. */
public final class Promise8Test {
    static void none(Check check) {
        check.changesNothing("objects()", EphemeronHeap::new, EphemeronHeap::objects, 0);
    }

    static void fromOneToTwenty(Check check) {
        EphemeronHeap heap = new EphemeronHeap();
        for (int o = 0; o < 20; o++) {
            heap.make(o % 3, 0);
            check.due("objects()", heap.objects(), o + 1);
        }
    }

    static void notMoreThanTwenty(Check check) {
        EphemeronHeap heap = Heaps.twenty();
        heap.make(Heaps.PLAIN, 0);
        check.due("objects() after a make() that answered FULL", heap.objects(), 20);
    }

    static void refusedMakesDoNotCount(Check check) {
        EphemeronHeap heap = Heaps.mixed();
        heap.make(3, 0);
        heap.make(Heaps.PLAIN, 4);
        check.due("objects()", heap.objects(), 9);
    }

    static void thoseThatAreNotAliveCount(Check check) {
        check.changesNothing("objects()", Heaps::twenty, EphemeronHeap::objects, 20);
    }

    static void thoseInTheQueueCount(Check check) {
        check.changesNothing("objects()", Heaps::twentyQueued, EphemeronHeap::objects, 20);
    }

    static void thoseThatAreGoneDoNotCount(Check check) {
        check.changesNothing("objects()", Heaps::mixed, EphemeronHeap::objects, 9);
        check.changesNothing("objects()", () -> Heaps.gone(Heaps.WEAK), EphemeronHeap::objects, 0);
    }

    static void aNumberUsedAgainCountsOnce(Check check) {
        EphemeronHeap heap = Heaps.gone(Heaps.PLAIN);
        heap.make(Heaps.PLAIN, 0);
        check.due("objects()", heap.objects(), 1);
    }

    public static void main(String[] args) {
        Runner.run(Promise8Test.class);
    }
}

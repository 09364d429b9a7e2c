/** Promise 12, kind: the kind of object o; NONE when it is not there. */
public final class Promise12Test {
    private static void isNone(Check check, int o) {
        check.changesNothing("kind(" + o + ")", Heaps::mixed, heap -> heap.kind(o), Heaps.NONE);
    }

    static void objectBelow(Check check) {
        for (int o : Heaps.NUMBERS_BELOW) {
            isNone(check, o);
        }
    }

    static void objectAbove(Check check) {
        for (int o : Heaps.NUMBERS_ABOVE) {
            isNone(check, o);
        }
    }

    static void objectNone(Check check) {
        isNone(check, Heaps.NONE);
    }

    static void objectNeverMade(Check check) {
        for (int o : Heaps.MIXED_NEVER_MADE) {
            isNone(check, o);
        }
    }

    static void objectGone(Check check) {
        isNone(check, Heaps.MIXED_GONE);
        for (int kind = Heaps.PLAIN; kind <= Heaps.PAIR; kind++) {
            check.due("kind(0) when it is gone", Heaps.gone(kind).kind(0), Heaps.NONE);
        }
    }

    static void kindsFromLeastToGreatest(Check check) {
        for (int n = 0; n < 3; n++) {
            int o = n;
            check.changesNothing("kind(" + o + ")", Heaps::mixed, heap -> heap.kind(o), o);
        }
    }

    static void theLeastAndTheGreatestNumber(Check check) {
        EphemeronHeap heap = new EphemeronHeap();
        for (int o = 0; o < 20; o++) {
            heap.make(2 - o % 3, 0);
        }
        for (int o = 0; o < 20; o++) {
            check.due("kind(" + o + ")", heap.kind(o), 2 - o % 3);
        }
    }

    static void anObjectThatIsThereButNotAlive(Check check) {
        EphemeronHeap heap = Heaps.unrooted(Heaps.WEAK);
        check.due("kind(0)", heap.kind(0), Heaps.WEAK);
    }

    static void anObjectInTheQueue(Check check) {
        EphemeronHeap heap = Heaps.mixed();
        check.due("kind(5)", heap.kind(5), Heaps.WEAK);
        check.due("kind(7)", heap.kind(7), Heaps.PLAIN);
    }

    static void aNumberUsedAgain(Check check) {
        EphemeronHeap heap = Heaps.gone(Heaps.PAIR);
        heap.make(Heaps.PLAIN, 0);
        check.due("kind(0)", heap.kind(0), Heaps.PLAIN);
    }

    public static void main(String[] args) {
        Runner.run(Promise12Test.class);
    }
}

/** Promise 11, field: what a or b points to; NONE for nothing, an object that is not there, or a wrong which. */
public final class Promise11Test {
    private static final int NONE = Heaps.NONE;

    private static void isNone(Check check, int o, int which) {
        check.changesNothing("field(" + o + ", " + which + ")", Heaps::mixed, heap -> heap.field(o, which), NONE);
    }

    private static void bothAreNone(Check check, int o) {
        isNone(check, o, 0);
        isNone(check, o, 1);
    }

    static void objectBelow(Check check) {
        for (int o : Heaps.NUMBERS_BELOW) {
            bothAreNone(check, o);
        }
    }

    static void objectAbove(Check check) {
        for (int o : Heaps.NUMBERS_ABOVE) {
            bothAreNone(check, o);
        }
    }

    static void objectNone(Check check) {
        bothAreNone(check, NONE);
    }

    static void objectNeverMade(Check check) {
        for (int o : Heaps.MIXED_NEVER_MADE) {
            bothAreNone(check, o);
        }
    }

    static void objectGone(Check check) {
        bothAreNone(check, Heaps.MIXED_GONE);
    }

    /** Its fields pointed to an object that is still there. */
    static void objectGoneWhoseFieldsPointed(Check check) {
        for (int kind = Heaps.PLAIN; kind <= Heaps.PAIR; kind++) {
            EphemeronHeap heap = Heaps.unrooted(Heaps.PLAIN, kind);
            heap.root(0, 0);
            heap.point(1, 0, 0);
            heap.point(1, 1, 0);
            heap.clean();
            check.due("field(1, 0)", heap.field(1, 0), NONE);
            check.due("field(1, 1)", heap.field(1, 1), NONE);
        }
    }

    static void whichBelow(Check check) {
        for (int which : Heaps.FIELDS_BELOW) {
            isNone(check, 0, which);
        }
    }

    static void whichAbove(Check check) {
        for (int which : Heaps.FIELDS_ABOVE) {
            isNone(check, 0, which);
        }
    }

    static void objectAndWhichWrong(Check check) {
        isNone(check, -2, -1);
        isNone(check, 20, 2);
    }

    static void nothing(Check check) {
        bothAreNone(check, Heaps.MIXED_NOT_ALIVE);
        bothAreNone(check, Heaps.MIXED_QUEUE[0]);
    }

    static void aAndBAreTwo(Check check) {
        check.changesNothing("field(0, 0)", Heaps::mixed, heap -> heap.field(0, 0), 4);
        check.changesNothing("field(0, 1)", Heaps::mixed, heap -> heap.field(0, 1), 9);
    }

    static void theLeastAndTheGreatestNumber(Check check) {
        EphemeronHeap heap = Heaps.twenty();
        heap.point(0, 0, 19);
        heap.point(19, 1, 0);
        check.due("field(0, 0)", heap.field(0, 0), 19);
        check.due("field(0, 1)", heap.field(0, 1), NONE);
        check.due("field(19, 0)", heap.field(19, 0), NONE);
        check.due("field(19, 1)", heap.field(19, 1), 0);
    }

    static void backToNothing(Check check) {
        EphemeronHeap heap = Heaps.mixed();
        heap.point(0, 0, NONE);
        check.due("field(0, 0)", heap.field(0, 0), NONE);
    }

    static void anObjectThatIsThereButNotAlive(Check check) {
        EphemeronHeap heap = Heaps.twenty();
        heap.point(7, 1, 8);
        check.due("field(7, 1)", heap.field(7, 1), 8);
    }

    static void aNumberUsedAgain(Check check) {
        EphemeronHeap heap = Heaps.gone(Heaps.PLAIN);
        check.due("field(0, 0) when it is gone", heap.field(0, 0), NONE);
        check.due("field(0, 1) when it is gone", heap.field(0, 1), NONE);
        heap.make(Heaps.PLAIN, 0);
        check.due("field(0, 0) when it is used again", heap.field(0, 0), NONE);
        check.due("field(0, 1) when it is used again", heap.field(0, 1), NONE);
    }

    public static void main(String[] args) {
        Runner.run(Promise11Test.class);
    }
}

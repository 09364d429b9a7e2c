/** Promise 3, point: a or b of object o to object p or to nothing; false, changing nothing, for a wrong o, p or which. */
public final class Promise3Test {
    private static final int NONE = Heaps.NONE;
    private static final int PLAIN = Heaps.PLAIN;
    private static final int WEAK = Heaps.WEAK;
    private static final int PAIR = Heaps.PAIR;

    private static void refused(Check check, int o, int which, int p) {
        String call = "point(" + o + ", " + which + ", " + p + ")";
        check.changesNothing(call, Heaps::mixed, heap -> heap.point(o, which, p) ? 1 : 0, 0);
    }

    private static void refusedOfObject(Check check, int o) {
        refused(check, o, 0, 1);
        refused(check, o, 1, 1);
        refused(check, o, 0, NONE);
        refused(check, o, 1, NONE);
    }

    private static void refusedToTarget(Check check, int p) {
        refused(check, 0, 0, p);
        refused(check, 0, 1, p);
    }

    static void objectBelow(Check check) {
        for (int o : Heaps.NUMBERS_BELOW) {
            refusedOfObject(check, o);
        }
    }

    static void objectAbove(Check check) {
        for (int o : Heaps.NUMBERS_ABOVE) {
            refusedOfObject(check, o);
        }
    }

    static void objectNone(Check check) {
        refusedOfObject(check, NONE);
    }

    static void objectNeverMade(Check check) {
        for (int o : Heaps.MIXED_NEVER_MADE) {
            refusedOfObject(check, o);
        }
    }

    static void objectGone(Check check) {
        refusedOfObject(check, Heaps.MIXED_GONE);
    }

    static void targetBelow(Check check) {
        for (int p : Heaps.NUMBERS_BELOW) {
            refusedToTarget(check, p);
        }
    }

    static void targetAbove(Check check) {
        for (int p : Heaps.NUMBERS_ABOVE) {
            refusedToTarget(check, p);
        }
    }

    static void targetNeverMade(Check check) {
        for (int p : Heaps.MIXED_NEVER_MADE) {
            refusedToTarget(check, p);
        }
    }

    static void targetGone(Check check) {
        refusedToTarget(check, Heaps.MIXED_GONE);
    }

    static void targetNone(Check check) {
        for (int which = 0; which < 2; which++) {
            EphemeronHeap heap = Heaps.unrooted(PLAIN, PLAIN);
            heap.point(0, 0, 1);
            heap.point(0, 1, 1);
            check.due("point(0, " + which + ", NONE)", heap.point(0, which, NONE), true);
            check.due("the field", heap.field(0, which), NONE);
            check.due("the other field", heap.field(0, 1 - which), 1);
            check.due("point(0, " + which + ", NONE) again", heap.point(0, which, NONE), true);
        }
    }

    static void whichBelow(Check check) {
        for (int which : Heaps.FIELDS_BELOW) {
            refused(check, 0, which, 1);
            refused(check, 0, which, NONE);
        }
    }

    static void whichAbove(Check check) {
        for (int which : Heaps.FIELDS_ABOVE) {
            refused(check, 0, which, 1);
            refused(check, 0, which, NONE);
        }
    }

    static void moreThanOneWrong(Check check) {
        refused(check, 20, 2, 1);
        refused(check, 20, 0, 20);
        refused(check, 0, 2, 20);
        refused(check, NONE, -1, NONE);
        refused(check, 20, 2, 20);
    }

    static void everyKindFieldAndTarget(Check check) {
        for (int o = 0; o < 3; o++) {
            for (int which = 0; which < 2; which++) {
                for (int p = 0; p < 3; p++) {
                    EphemeronHeap heap = Heaps.unrooted(PLAIN, WEAK, PAIR);
                    String call = "point(" + o + ", " + which + ", " + p + ")";
                    check.due(call, heap.point(o, which, p), true);
                    check.due("the field after " + call, heap.field(o, which), p);
                    check.due("the other field after " + call, heap.field(o, 1 - which), NONE);
                    check.due("another's field after " + call, heap.field((o + 1) % 3, which), NONE);
                }
            }
        }
    }

    static void theLeastAndTheGreatestNumber(Check check) {
        EphemeronHeap heap = Heaps.twenty();
        check.due("point(0, 0, 19)", heap.point(0, 0, 19), true);
        check.due("point(19, 1, 0)", heap.point(19, 1, 0), true);
        check.due("point(19, 0, 19)", heap.point(19, 0, 19), true);
        check.due("field(0, 0)", heap.field(0, 0), 19);
        check.due("field(19, 1)", heap.field(19, 1), 0);
        check.due("field(19, 0)", heap.field(19, 0), 19);
    }

    static void aSecondPointReplacesTheFirst(Check check) {
        EphemeronHeap heap = Heaps.unrooted(PLAIN, PLAIN, PLAIN);
        heap.root(0, 0);
        heap.point(0, 0, 1);
        check.due("point(0, 0, 2)", heap.point(0, 0, 2), true);
        check.due("field(0, 0)", heap.field(0, 0), 2);
        check.due("alive()", heap.alive(), Check.set(0, 2));
    }

    static void objectsThatAreThereButNotAlive(Check check) {
        EphemeronHeap heap = Heaps.mixed();
        int o = Heaps.MIXED_NOT_ALIVE;
        check.due("point of it", heap.point(o, 0, 0), true);
        check.due("field of it", heap.field(o, 0), 0);
        check.due("point to it", heap.point(0, 0, o), true);
        check.due("alive(): it is so again", heap.alive() >> o & 1, 1);
    }

    static void anObjectInTheQueue(Check check) {
        EphemeronHeap heap = Heaps.mixed();
        int o = Heaps.MIXED_QUEUE[0];
        check.due("point of it", heap.point(o, 1, 3), true);
        check.due("alive()", heap.alive() >> 3 & 1, 1);
        check.due("point to it", heap.point(0, 0, o), true);
        check.due("queued()", heap.queued(), 2);
    }

    static void aNumberUsedAgain(Check check) {
        EphemeronHeap heap = Heaps.gone(PLAIN);
        heap.make(PLAIN, 0);
        check.due("point(0, 1, 0)", heap.point(0, 1, 0), true);
        check.due("field(0, 1)", heap.field(0, 1), 0);
        check.due("field(0, 0)", heap.field(0, 0), NONE);
    }

    public static void main(String[] args) {
        Runner.run(Promise3Test.class);
    }
}

import java.util.function.ToLongFunction;

/** Promise 1, a new object: no objects, and roots that point to nothing. */
public final class Promise1Test {
    private static final int NONE = Heaps.NONE;

    static void thereAreNoObjects(Check check) {
        EphemeronHeap heap = new EphemeronHeap();
        check.due("objects()", heap.objects(), 0);
        check.due("there()", heap.there(), 0);
        for (int o = 0; o < 20; o++) {
            check.due("kind(" + o + ")", heap.kind(o), NONE);
        }
    }

    static void rootsPointToNothing(Check check) {
        EphemeronHeap heap = new EphemeronHeap();
        for (int r = 0; r < 4; r++) {
            check.due("rootOf(" + r + ")", heap.rootOf(r), NONE);
        }
    }

    static void nothingIsAliveWatchedOrQueued(Check check) {
        EphemeronHeap heap = new EphemeronHeap();
        check.due("alive()", heap.alive(), 0);
        check.due("watched()", heap.watched(), 0);
        check.due("queued()", heap.queued(), 0);
    }

    static void everyCallOnAnObjectIsRefused(Check check) {
        for (int n = -2; n <= 20; n++) {
            int o = n;
            refused(check, "watch(" + o + ")", heap -> heap.watch(o) ? 1 : 0, 0);
            refused(check, "point(" + o + ", 0, NONE)", heap -> heap.point(o, 0, NONE) ? 1 : 0, 0);
            refused(check, "field(" + o + ", 0)", heap -> heap.field(o, 0), NONE);
            refused(check, "field(" + o + ", 1)", heap -> heap.field(o, 1), NONE);
            refused(check, "heldBy(" + o + ")", heap -> heap.heldBy(o), 0);
            boolean nothing = o == NONE;
            refused(check, "root(0, " + o + ")", heap -> heap.root(0, o) ? 1 : 0, nothing ? 1 : 0);
        }
    }

    private static void refused(Check check, String call, ToLongFunction<EphemeronHeap> asked, long want) {
        check.changesNothing(call + " on a new object", EphemeronHeap::new, asked, want);
    }

    static void nothingIsGoneByCleaning(Check check) {
        check.changesNothing("clean() on a new object", EphemeronHeap::new, EphemeronHeap::clean, 0);
    }

    static void nothingIsTaken(Check check) {
        for (int n = 0; n < 4; n++) {
            int r = n;
            check.changesNothing("take(" + r + ") on a new object", EphemeronHeap::new, heap -> heap.take(r), NONE);
        }
    }

    static void twoAreApart(Check check) {
        EphemeronHeap first = Heaps.mixed();
        String before = Check.state(first);
        EphemeronHeap second = new EphemeronHeap();
        check.due("the second's there()", second.there(), 0);
        check.due("the second's watched()", second.watched(), 0);
        check.due("the second's queued()", second.queued(), 0);
        check.due("the second's rootOf(0)", second.rootOf(0), NONE);
        check.due("the second's make()", second.make(Heaps.WEAK, 3), 0);
        second.watch(0);
        second.clean();
        check.same("the first", Check.state(first), before);
    }

    /** The document promises 512 calls: the last of them answers as the first did. */
    static void the512thCall(Check check) {
        EphemeronHeap heap = new EphemeronHeap();
        for (int call = 1; call < 512; call += 2) {
            check.due("make() as call " + call, heap.make(call % 3, 0), call / 2 % 2);
            check.due("clean() as call " + (call + 1), heap.clean(), call == 1 ? 0 : 1);
        }
    }

    static void theConstants(Check check) {
        check.due("NONE", EphemeronHeap.NONE, -1);
        check.due("FULL", EphemeronHeap.FULL, -2);
    }

    public static void main(String[] args) {
        Runner.run(Promise1Test.class);
    }
}

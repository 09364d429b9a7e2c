/** Promise 13, rootOf: what root r points to; NONE for nothing or a wrong r. */
public final class Promise13Test {
    private static final int NONE = Heaps.NONE;

    private static void answers(Check check, int r, int want) {
        check.changesNothing("rootOf(" + r + ")", Heaps::mixed, heap -> heap.rootOf(r), want);
    }

    static void rootBelow(Check check) {
        for (int r : Heaps.ROOTS_BELOW) {
            answers(check, r, NONE);
        }
    }

    static void rootAbove(Check check) {
        for (int r : Heaps.ROOTS_ABOVE) {
            answers(check, r, NONE);
        }
    }

    static void nothing(Check check) {
        answers(check, 3, NONE);
    }

    static void rootsFromLeastToGreatest(Check check) {
        EphemeronHeap heap = Heaps.twenty();
        for (int r = 0; r < 4; r++) {
            heap.root(r, 19 - r);
        }
        for (int r = 0; r < 4; r++) {
            check.due("rootOf(" + r + ")", heap.rootOf(r), 19 - r);
        }
    }

    static void theLeastAndTheGreatestNumber(Check check) {
        EphemeronHeap heap = Heaps.twenty();
        heap.root(0, 19);
        heap.root(3, 0);
        check.due("rootOf(0)", heap.rootOf(0), 19);
        check.due("rootOf(3)", heap.rootOf(3), 0);
    }

    static void afterMakeRootAndTake(Check check) {
        EphemeronHeap heap = Heaps.mixed();
        heap.make(Heaps.PLAIN, 1);
        check.due("rootOf(1) after make()", heap.rootOf(1), 8);
        heap.root(1, 4);
        check.due("rootOf(1) after root()", heap.rootOf(1), 4);
        heap.take(1);
        check.due("rootOf(1) after take()", heap.rootOf(1), 5);
        heap.root(1, NONE);
        check.due("rootOf(1) after root() to nothing", heap.rootOf(1), NONE);
    }

    static void afterCleaning(Check check) {
        EphemeronHeap heap = Heaps.mixed();
        heap.clean();
        for (int r = 0; r < 4; r++) {
            check.due("rootOf(" + r + ")", heap.rootOf(r), r < 3 ? r : NONE);
        }
    }

    public static void main(String[] args) {
        Runner.run(Promise13Test.class);
    }
}

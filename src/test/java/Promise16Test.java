/** Promise 16, heldBy: those that would not be alive without object o's fields; 0 when o is not there. */
public final class Promise16Test {
    private static final int NONE = Heaps.NONE;
    private static final int PLAIN = Heaps.PLAIN;
    private static final int WEAK = Heaps.WEAK;
    private static final int PAIR = Heaps.PAIR;

    private static void answers(Check check, int o, int want) {
        check.changesNothing("heldBy(" + o + ")", Heaps::mixed, heap -> heap.heldBy(o), want);
    }

    /** Object 0 of this kind with a root, whose a and b point to 1 and 2. */
    private static EphemeronHeap rooted(int kind) {
        EphemeronHeap heap = Heaps.unrooted(kind, PLAIN, PLAIN);
        heap.root(0, 0);
        heap.point(0, 0, 1);
        heap.point(0, 1, 2);
        return heap;
    }

    static void objectBelow(Check check) {
        for (int o : Heaps.NUMBERS_BELOW) {
            answers(check, o, 0);
        }
    }

    static void objectAbove(Check check) {
        for (int o : Heaps.NUMBERS_ABOVE) {
            answers(check, o, 0);
        }
    }

    static void objectNone(Check check) {
        answers(check, NONE, 0);
    }

    static void objectNeverMade(Check check) {
        for (int o : Heaps.MIXED_NEVER_MADE) {
            answers(check, o, 0);
        }
    }

    /** What it held when it was there is held by nobody else but a root now. */
    static void objectGone(Check check) {
        answers(check, Heaps.MIXED_GONE, 0);
        EphemeronHeap heap = rooted(PLAIN);
        heap.root(0, 1);
        heap.clean();
        check.due("heldBy(0)", heap.heldBy(0), 0);
    }

    static void objectThatIsNotAlive(Check check) {
        answers(check, Heaps.MIXED_NOT_ALIVE, 0);
        EphemeronHeap heap = rooted(PLAIN);
        heap.root(0, NONE);
        check.due("heldBy(0)", heap.heldBy(0), 0);
    }

    static void objectWhoseFieldsPointToNothing(Check check) {
        answers(check, 4, 0);
        answers(check, Heaps.MIXED_QUEUE[0], 0);
    }

    static void objectWhoseFieldsPointToItself(Check check) {
        for (int kind = PLAIN; kind <= PAIR; kind++) {
            EphemeronHeap heap = Heaps.unrooted(kind);
            heap.root(0, 0);
            heap.point(0, 0, 0);
            heap.point(0, 1, 0);
            check.due("heldBy(0): nobody holds itself", heap.heldBy(0), 0);
        }
    }

    static void lookingChangesNothing(Check check) {
        answers(check, 0, Check.set(4));
        answers(check, 1, Check.set(6));
        answers(check, 2, 0);
        answers(check, 6, 0);
    }

    static void plainHoldsAAndB(Check check) {
        check.due("heldBy(0)", rooted(PLAIN).heldBy(0), Check.set(1, 2));
    }

    static void weakHoldsBAlone(Check check) {
        check.due("heldBy(0)", rooted(WEAK).heldBy(0), Check.set(2));
    }

    static void pairWhoseAIsNotAlive(Check check) {
        check.due("heldBy(0)", rooted(PAIR).heldBy(0), 0);
    }

    static void pairWhoseAIsAlive(Check check) {
        EphemeronHeap heap = rooted(PAIR);
        heap.root(1, 1);
        check.due("heldBy(0)", heap.heldBy(0), Check.set(2));
        check.due("heldBy(1): its fields are empty", heap.heldBy(1), 0);
    }

    static void pairThatIsItsOwnA(Check check) {
        EphemeronHeap heap = rooted(PAIR);
        heap.point(0, 0, 0);
        check.due("heldBy(0)", heap.heldBy(0), Check.set(2));
    }

    static void notWhatAnotherHoldsToo(Check check) {
        EphemeronHeap heap = rooted(PLAIN);
        heap.make(PLAIN, 1);
        heap.point(3, 0, 2);
        check.due("heldBy(0)", heap.heldBy(0), Check.set(1));
        check.due("heldBy(3)", heap.heldBy(3), 0);
    }

    static void notWhatARootHoldsToo(Check check) {
        EphemeronHeap heap = rooted(PLAIN);
        heap.root(3, 2);
        check.due("heldBy(0)", heap.heldBy(0), Check.set(1));
    }

    static void notWhatTheQueueHoldsToo(Check check) {
        EphemeronHeap heap = Heaps.mixed();
        heap.point(4, 0, Heaps.MIXED_QUEUE[0]);
        heap.point(4, 1, Heaps.MIXED_NOT_ALIVE);
        check.due("heldBy(4)", heap.heldBy(4), Check.set(Heaps.MIXED_NOT_ALIVE));
    }

    static void byOneInTheQueue(Check check) {
        EphemeronHeap heap = Heaps.mixed();
        heap.point(7, 0, Heaps.MIXED_NOT_ALIVE);
        check.due("heldBy(7)", heap.heldBy(7), Check.set(Heaps.MIXED_NOT_ALIVE));
    }

    static void whatAPairLetsGoThen(Check check) {
        EphemeronHeap heap = rooted(PLAIN);
        heap.make(PAIR, 1);
        heap.make(PLAIN, 2);
        heap.root(2, NONE);
        heap.point(3, 0, 1);
        heap.point(3, 1, 4);
        check.due("heldBy(0): a pair's a, so also its b", heap.heldBy(0), Check.set(1, 2, 4));
        check.due("heldBy(3)", heap.heldBy(3), Check.set(4));
    }

    static void throughOthers(Check check) {
        EphemeronHeap heap = Heaps.unrooted(PLAIN, PAIR, PLAIN, PLAIN);
        heap.root(0, 3);
        heap.point(3, 0, 0);
        heap.point(0, 1, 1);
        heap.point(1, 0, 3);
        heap.point(1, 1, 2);
        check.due("heldBy(3)", heap.heldBy(3), Check.set(0, 1, 2));
        check.due("heldBy(0)", heap.heldBy(0), Check.set(1, 2));
        check.due("heldBy(1)", heap.heldBy(1), Check.set(2));
    }

    static void inARing(Check check) {
        EphemeronHeap heap = Heaps.unrooted(PLAIN, WEAK);
        heap.root(3, 1);
        heap.point(0, 0, 1);
        heap.point(1, 1, 0);
        check.due("heldBy(1): the one that the root points to", heap.heldBy(1), Check.set(0));
        check.due("heldBy(0): back to that one", heap.heldBy(0), 0);
    }

    static void byOneOfTwoPairsThatWaitForEachOther(Check check) {
        EphemeronHeap heap = Heaps.unrooted(PAIR, PAIR, PLAIN, PLAIN);
        heap.point(0, 0, 2);
        heap.point(0, 1, 3);
        heap.point(1, 0, 3);
        heap.point(1, 1, 2);
        heap.root(0, 0);
        heap.root(1, 1);
        heap.root(2, 3);
        check.due("heldBy(1): the one whose a is alive by a root", heap.heldBy(1), Check.set(2));
        check.due("heldBy(0): the other", heap.heldBy(0), 0);
    }

    static void byPairsInARow(Check check) {
        EphemeronHeap heap = Heaps.pairsInARow();
        heap.root(1, 18);
        check.due("heldBy(11): the first pair found", heap.heldBy(11), 0x3F000);
        check.due("heldBy(6): the last pair found", heap.heldBy(6), Check.set(12));
        check.due("heldBy(5): one that keeps a pair", heap.heldBy(5), Check.set(11, 12, 13, 14, 15, 16, 17));
    }

    static void allTwentyInAChain(Check check) {
        EphemeronHeap heap = new EphemeronHeap();
        for (int o = 0; o < 20; o++) {
            heap.make(o % 2, 0);
            heap.point(o, 1, o - 1);
        }
        for (int o = 0; o < 20; o++) {
            check.due("heldBy(" + o + ")", heap.heldBy(o), (1 << o) - 1);
        }
    }

    static void allButOneOfTwenty(Check check) {
        EphemeronHeap heap = Heaps.twenty();
        heap.root(0, 0);
        for (int o = 0; o < 19; o++) {
            heap.point(o, o % 2, o + 1);
        }
        check.due("heldBy(0)", heap.heldBy(0), Heaps.ALL_TWENTY & ~1);
        check.due("heldBy(18)", heap.heldBy(18), Check.set(19));
        check.due("heldBy(19)", heap.heldBy(19), 0);
    }

    static void aNumberUsedAgain(Check check) {
        EphemeronHeap heap = rooted(PLAIN);
        heap.root(0, 1);
        heap.root(1, 2);
        heap.clean();
        check.due("make()", heap.make(PLAIN, 2), 0);
        heap.root(0, NONE);
        heap.root(1, NONE);
        check.due("heldBy(0): its fields are empty", heap.heldBy(0), 0);
        heap.point(0, 0, 2);
        check.due("heldBy(0) when it points anew", heap.heldBy(0), Check.set(2));
    }

    public static void main(String[] args) {
        Runner.run(Promise16Test.class);
    }
}

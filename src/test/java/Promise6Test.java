/** Promise 6, clean: each sentence that the document says under Terms about cleaning, and how many objects are gone. */
public final class Promise6Test {
    private static final int NONE = Heaps.NONE;
    private static final int PLAIN = Heaps.PLAIN;
    private static final int WEAK = Heaps.WEAK;
    private static final int PAIR = Heaps.PAIR;

    private static void fields(Check check, String what, EphemeronHeap heap, int o, int a, int b) {
        check.due(what + ": a", heap.field(o, 0), a);
        check.due(what + ": b", heap.field(o, 1), b);
    }

    static void noObjects(Check check) {
        check.changesNothing("clean()", EphemeronHeap::new, EphemeronHeap::clean, 0);
    }

    static void allAreAlive(Check check) {
        check.changesNothing("clean()", Heaps::twentyQueued, EphemeronHeap::clean, 0);
    }

    static void allTwentyAreGone(Check check) {
        EphemeronHeap heap = Heaps.twenty();
        check.due("clean()", heap.clean(), 20);
        check.due("there()", heap.there(), 0);
        check.due("clean() again", heap.clean(), 0);
    }

    static void allButOneAreGone(Check check) {
        for (int o = 0; o < 20; o++) {
            EphemeronHeap heap = Heaps.twenty();
            heap.root(o % 4, o);
            check.due("clean() with a root to " + o, heap.clean(), 19);
            check.due("there()", heap.there(), Check.set(o));
        }
    }

    static void someAreGone(Check check) {
        EphemeronHeap heap = Heaps.unrooted(PLAIN, WEAK, PAIR, PLAIN, PLAIN);
        heap.root(2, 3);
        heap.point(3, 0, 4);
        check.due("clean()", heap.clean(), 3);
        check.due("there()", heap.there(), Check.set(3, 4));
        check.due("objects()", heap.objects(), 2);
        heap.root(2, NONE);
        check.due("clean() of the rest", heap.clean(), 2);
    }

    static void aSecondCleaningChangesNothing(Check check) {
        check.changesNothing("the second clean()", Promise6Test::mixedAndCleaned, EphemeronHeap::clean, 0);
    }

    private static EphemeronHeap mixedAndCleaned() {
        EphemeronHeap heap = Heaps.mixed();
        heap.clean();
        return heap;
    }

    static void watchedAndNotAliveComesIntoTheQueue(Check check) {
        EphemeronHeap heap = Heaps.unrooted(PLAIN, PLAIN);
        heap.watch(1);
        check.due("clean(): it is not gone", heap.clean(), 1);
        check.due("there()", heap.there(), Check.set(1));
        check.due("queued()", heap.queued(), 1);
        check.due("take(0)", heap.take(0), 1);
    }

    static void watchedAndAliveDoesNot(Check check) {
        EphemeronHeap heap = Heaps.unrooted(PLAIN);
        heap.root(0, 0);
        heap.watch(0);
        check.due("clean()", heap.clean(), 0);
        check.due("queued()", heap.queued(), 0);
        check.due("watched(): it is so still", heap.watched(), Check.set(0));
    }

    static void notWatchedAnyMore(Check check) {
        EphemeronHeap heap = Heaps.unrooted(PLAIN);
        heap.watch(0);
        heap.clean();
        check.due("watched()", heap.watched(), 0);
        heap.take(0);
        heap.root(0, NONE);
        check.due("clean(): it is not told of its end twice", heap.clean(), 1);
        check.due("queued()", heap.queued(), 0);
    }

    static void theLeastNumberFirst(Check check) {
        EphemeronHeap heap = Heaps.twenty();
        for (int o = 19; o >= 0; o--) {
            heap.watch(o);
        }
        check.due("clean()", heap.clean(), 0);
        for (int o = 0; o < 20; o++) {
            check.due("take(0)", heap.take(0), o);
        }
    }

    static void atTheEndOfTheQueue(Check check) {
        EphemeronHeap heap = Heaps.mixed();
        check.due("clean()", heap.clean(), 0);
        check.due("queued()", heap.queued(), 3);
        check.due("take(3)", heap.take(3), 5);
        check.due("take(3)", heap.take(3), 7);
        check.due("take(3): the one that came last, though its number is the least", heap.take(3), 3);
    }

    static void theOrderOfTwoCleanings(Check check) {
        EphemeronHeap heap = Heaps.unrooted(PLAIN, PLAIN, PLAIN, PLAIN, PLAIN);
        heap.root(0, 0);
        heap.root(1, 2);
        heap.watch(4);
        heap.watch(1);
        heap.watch(3);
        check.due("clean()", heap.clean(), 0);
        heap.root(0, NONE);
        heap.root(1, NONE);
        heap.watch(2);
        heap.watch(0);
        check.due("clean()", heap.clean(), 0);
        int[] due = {1, 3, 4, 0, 2};
        for (int o : due) {
            check.due("take(2)", heap.take(2), o);
        }
        check.due("clean(): only the last one taken lives", heap.clean(), 4);
    }

    static void oneInTheQueueIsNotPutThereAgain(Check check) {
        EphemeronHeap heap = Heaps.unrooted(PLAIN);
        heap.watch(0);
        heap.clean();
        heap.watch(0);
        check.due("clean()", heap.clean(), 0);
        check.due("queued()", heap.queued(), 1);
        check.due("watched(): it is alive, so it is so still", heap.watched(), Check.set(0));
    }

    static void twentyComeIntoTheQueueAndStay(Check check) {
        EphemeronHeap heap = Heaps.twentyQueued();
        check.due("queued()", heap.queued(), 20);
        for (int o = 0; o < 20; o++) {
            heap.watch(o);
        }
        check.due("clean()", heap.clean(), 0);
        check.due("queued(): there is no 21st", heap.queued(), 20);
        heap.take(0);
        heap.take(0);
        check.due("clean(): the first one comes back", heap.clean(), 0);
        check.due("queued()", heap.queued(), 19);
    }

    /** Alive before is looked at once: one that only the queue's new objects keep alive comes in as well. */
    static void watchedAndHeldByOneThatComesIn(Check check) {
        EphemeronHeap heap = Heaps.unrooted(PLAIN, PLAIN);
        heap.point(0, 0, 1);
        heap.watch(0);
        heap.watch(1);
        check.due("clean()", heap.clean(), 0);
        check.due("queued()", heap.queued(), 2);
        check.due("watched()", heap.watched(), 0);
    }

    static void watchedAndInARow(Check check) {
        EphemeronHeap heap = Heaps.unrooted(PLAIN, PLAIN, PLAIN);
        heap.point(2, 0, 0);
        heap.point(0, 0, 1);
        for (int o = 0; o < 3; o++) {
            heap.watch(o);
        }
        check.due("clean()", heap.clean(), 0);
        for (int o = 0; o < 3; o++) {
            check.due("take(0): by number, not by who holds whom", heap.take(0), o);
        }
    }

    static void foundAnewWithTheLongerQueue(Check check) {
        EphemeronHeap heap = Heaps.unrooted(PLAIN, WEAK, PAIR, PLAIN, PLAIN);
        heap.point(0, 0, 1);
        heap.point(0, 1, 2);
        heap.point(1, 1, 3);
        heap.point(2, 0, 3);
        heap.point(2, 1, 4);
        heap.watch(0);
        check.due("clean(): all live through object 0", heap.clean(), 0);
        check.due("alive()", heap.alive(), Check.set(0, 1, 2, 3, 4));
        check.due("queued()", heap.queued(), 1);
    }

    static void weakAToOneThatIsNotAlive(Check check) {
        EphemeronHeap heap = Heaps.unrooted(WEAK, PLAIN, PLAIN);
        heap.root(0, 0);
        heap.point(0, 0, 1);
        heap.point(0, 1, 2);
        check.due("clean()", heap.clean(), 1);
        fields(check, "the weak one", heap, 0, NONE, 2);
    }

    static void weakAToOneThatIsAlive(Check check) {
        EphemeronHeap heap = Heaps.unrooted(WEAK, PLAIN, PLAIN);
        heap.root(0, 0);
        heap.root(1, 1);
        heap.point(0, 0, 1);
        heap.point(0, 1, 2);
        check.due("clean()", heap.clean(), 0);
        fields(check, "the weak one", heap, 0, 1, 2);
    }

    static void weakAToNothing(Check check) {
        EphemeronHeap heap = Heaps.unrooted(WEAK, PLAIN);
        heap.root(0, 0);
        heap.point(0, 1, 1);
        check.due("clean()", heap.clean(), 0);
        fields(check, "the weak one", heap, 0, NONE, 1);
    }

    static void weakAToItself(Check check) {
        EphemeronHeap heap = Heaps.unrooted(WEAK, WEAK);
        heap.root(0, 0);
        heap.point(0, 0, 0);
        heap.point(1, 0, 1);
        heap.watch(1);
        check.due("clean()", heap.clean(), 0);
        fields(check, "one that is alive", heap, 0, 0, NONE);
        fields(check, "one that came into the queue", heap, 1, NONE, NONE);
    }

    static void weakAToWhatItsOwnBHolds(Check check) {
        EphemeronHeap heap = Heaps.unrooted(WEAK, PLAIN);
        heap.root(0, 0);
        heap.point(0, 0, 1);
        heap.point(0, 1, 1);
        check.due("clean()", heap.clean(), 0);
        fields(check, "the weak one", heap, 0, 1, 1);
    }

    static void weakAToOneThatCameIntoTheQueue(Check check) {
        EphemeronHeap heap = Heaps.unrooted(WEAK, PLAIN);
        heap.root(0, 0);
        heap.point(0, 0, 1);
        heap.watch(1);
        check.due("clean()", heap.clean(), 0);
        fields(check, "the weak one", heap, 0, NONE, NONE);
    }

    static void weakAToOneThatOnlyLivesBecauseOfThese(Check check) {
        EphemeronHeap heap = Heaps.unrooted(WEAK, PLAIN, PLAIN, PLAIN);
        heap.root(0, 0);
        heap.point(0, 0, 3);
        heap.point(1, 1, 2);
        heap.point(2, 0, 3);
        heap.watch(1);
        check.due("clean()", heap.clean(), 0);
        fields(check, "the weak one", heap, 0, NONE, NONE);
        check.due("there(): what it pointed to", heap.there(), Check.set(0, 1, 2, 3));
    }

    static void weakAToOneThatAlsoLivesBecauseOfThese(Check check) {
        EphemeronHeap heap = Heaps.unrooted(WEAK, PLAIN, PLAIN);
        heap.root(0, 0);
        heap.root(1, 2);
        heap.point(0, 0, 2);
        heap.point(1, 0, 2);
        heap.watch(1);
        check.due("clean()", heap.clean(), 0);
        fields(check, "the weak one", heap, 0, 2, NONE);
    }

    static void weakAToOneThatWasInTheQueueBefore(Check check) {
        EphemeronHeap heap = Heaps.unrooted(WEAK, WEAK, PLAIN, PLAIN);
        heap.root(0, 0);
        heap.root(1, 1);
        heap.point(2, 0, 3);
        heap.watch(2);
        heap.clean();
        heap.point(0, 0, 2);
        heap.point(1, 0, 3);
        check.due("clean()", heap.clean(), 0);
        fields(check, "to the one in the queue", heap, 0, 2, NONE);
        fields(check, "to one that it keeps alive", heap, 1, 3, NONE);
    }

    static void weakOneThatOnlyLivesBecauseOfTheQueue(Check check) {
        EphemeronHeap heap = Heaps.unrooted(WEAK, PLAIN, PLAIN, WEAK);
        heap.root(0, 2);
        heap.point(0, 0, 1);
        heap.point(0, 1, 1);
        heap.point(3, 0, 2);
        heap.watch(0);
        heap.watch(3);
        check.due("clean()", heap.clean(), 0);
        fields(check, "to one that was not alive before", heap, 0, NONE, 1);
        fields(check, "to one that was", heap, 3, 2, NONE);
    }

    static void pairWhoseAIsNothing(Check check) {
        EphemeronHeap heap = Heaps.unrooted(PAIR, PLAIN);
        heap.root(0, 0);
        heap.root(1, 1);
        heap.point(0, 1, 1);
        check.due("clean()", heap.clean(), 0);
        fields(check, "the pair, though its b's object is alive", heap, 0, NONE, NONE);
    }

    static void pairWhoseAIsNotAlive(Check check) {
        EphemeronHeap heap = Heaps.unrooted(PAIR, PLAIN, PLAIN);
        heap.root(0, 0);
        heap.root(1, 2);
        heap.point(0, 0, 1);
        heap.point(0, 1, 2);
        check.due("clean()", heap.clean(), 1);
        fields(check, "the pair, though its b's object is alive", heap, 0, NONE, NONE);
    }

    static void pairWhoseAIsAlive(Check check) {
        EphemeronHeap heap = Heaps.unrooted(PAIR, PLAIN, PLAIN);
        heap.root(0, 0);
        heap.root(1, 1);
        heap.point(0, 0, 1);
        heap.point(0, 1, 2);
        check.due("clean()", heap.clean(), 0);
        fields(check, "the pair", heap, 0, 1, 2);
    }

    static void pairWhoseBIsNothing(Check check) {
        EphemeronHeap heap = Heaps.unrooted(PAIR, PLAIN);
        heap.root(0, 0);
        heap.root(1, 1);
        heap.point(0, 0, 1);
        check.due("clean()", heap.clean(), 0);
        fields(check, "the pair", heap, 0, 1, NONE);
    }

    static void pairWhoseACameIntoTheQueue(Check check) {
        EphemeronHeap heap = Heaps.unrooted(PAIR, PLAIN, PLAIN);
        heap.root(0, 0);
        heap.point(0, 0, 1);
        heap.point(0, 1, 2);
        heap.watch(1);
        check.due("clean()", heap.clean(), 0);
        fields(check, "the pair", heap, 0, 1, 2);
        check.due("alive()", heap.alive(), Check.set(0, 1, 2));
    }

    static void pairWhoseAOnlyLivesBecauseOfThese(Check check) {
        EphemeronHeap heap = Heaps.unrooted(PAIR, PLAIN, PLAIN, PLAIN);
        heap.root(0, 0);
        heap.point(0, 0, 2);
        heap.point(0, 1, 3);
        heap.point(1, 0, 2);
        heap.watch(1);
        check.due("clean()", heap.clean(), 0);
        fields(check, "the pair", heap, 0, 2, 3);
    }

    static void pairWhoseAAndBAreOneThatIsNotAlive(Check check) {
        EphemeronHeap heap = Heaps.unrooted(PAIR, PLAIN);
        heap.root(0, 0);
        heap.point(0, 0, 1);
        heap.point(0, 1, 1);
        check.due("clean()", heap.clean(), 1);
        fields(check, "the pair", heap, 0, NONE, NONE);
    }

    static void pairThatIsItsOwnA(Check check) {
        EphemeronHeap heap = Heaps.unrooted(PAIR, PLAIN, PAIR, PLAIN);
        heap.root(0, 0);
        heap.point(0, 0, 0);
        heap.point(0, 1, 1);
        heap.point(2, 0, 2);
        heap.point(2, 1, 3);
        check.due("clean(): the one without a root is gone with its b", heap.clean(), 2);
        fields(check, "the one with a root", heap, 0, 0, 1);
    }

    static void pairsThatWaitForEachOther(Check check) {
        EphemeronHeap heap = Heaps.unrooted(PAIR, PAIR, PLAIN, PLAIN);
        heap.root(0, 0);
        heap.root(1, 1);
        heap.point(0, 0, 2);
        heap.point(0, 1, 3);
        heap.point(1, 0, 3);
        heap.point(1, 1, 2);
        check.due("clean()", heap.clean(), 2);
        fields(check, "the first", heap, 0, NONE, NONE);
        fields(check, "the second", heap, 1, NONE, NONE);
    }

    static void pairInTheQueue(Check check) {
        EphemeronHeap heap = Heaps.unrooted(PAIR, PLAIN, PLAIN);
        heap.point(0, 0, 1);
        heap.point(0, 1, 2);
        heap.watch(0);
        check.due("clean()", heap.clean(), 2);
        fields(check, "the pair", heap, 0, NONE, NONE);
    }

    static void plainFieldsAndRootsStay(Check check) {
        EphemeronHeap heap = Heaps.unrooted(PLAIN, PLAIN, PLAIN);
        heap.root(3, 1);
        heap.point(1, 0, 0);
        heap.point(1, 1, 1);
        heap.point(0, 1, 1);
        check.due("clean()", heap.clean(), 1);
        fields(check, "the rooted one", heap, 1, 0, 1);
        fields(check, "the other", heap, 0, NONE, 1);
        check.due("rootOf(3)", heap.rootOf(3), 1);
        check.due("rootOf(0)", heap.rootOf(0), NONE);
    }

    static void numbersCanBeUsedAgain(Check check) {
        EphemeronHeap heap = Heaps.twenty();
        heap.root(0, 1);
        check.due("make() before cleaning", heap.make(PLAIN, 1), Heaps.FULL);
        check.due("clean()", heap.clean(), 19);
        for (int o = 0; o < 20; o++) {
            if (o != 1) {
                check.due("make()", heap.make(PAIR, 1), o);
            }
        }
        check.due("make() of the 21st", heap.make(PLAIN, 1), Heaps.FULL);
    }

    static void aNumberUsedAgainIsCleanedAgain(Check check) {
        EphemeronHeap heap = Heaps.gone(PLAIN);
        heap.make(PLAIN, 0);
        heap.watch(0);
        heap.root(0, NONE);
        check.due("clean() of the second object 0", heap.clean(), 0);
        check.due("take(1)", heap.take(1), 0);
        heap.root(1, NONE);
        check.due("clean() when it is let go", heap.clean(), 1);
    }

    public static void main(String[] args) {
        Runner.run(Promise6Test.class);
    }
}

import java.util.Arrays;

/**
 * Promises 6, 10 and 16 in every heap of one or two objects, and in every 101st of three: of whatever kinds, with whatever
 * fields, roots, queue and watched ones. With the argument 1 every one of three is looked at, which takes some minutes.
 */
public final class SmallHeapsTest {
    private static final int NONE = Heaps.NONE;
    private static final int STEP = 101;

    private final int size;
    private final int[] kinds;
    private final int[] as;
    private final int[] bs;
    private int rooted;
    private int queued;
    private int watched;

    private SmallHeapsTest(int size) {
        this.size = size;
        kinds = new int[size];
        as = new int[size];
        bs = new int[size];
    }

    private static boolean has(int set, int o) {
        return o != NONE && (set >> o & 1) == 1;
    }

    private static boolean hasOrNone(int set, int p) {
        return p == NONE || has(set, p);
    }

    /** How many heaps of this size there are. */
    private int heaps() {
        int heaps = 1;
        for (int o = 0; o < size; o++) {
            heaps *= 3 * (size + 1) * (size + 1) * 2 * 2 * 2;
        }
        return heaps;
    }

    /** Takes the heap of this number. */
    private void take(int number) {
        int rest = number;
        rooted = 0;
        queued = 0;
        watched = 0;
        for (int o = 0; o < size; o++) {
            kinds[o] = rest % 3;
            rest /= 3;
            as[o] = rest % (size + 1) - 1;
            rest /= size + 1;
            bs[o] = rest % (size + 1) - 1;
            rest /= size + 1;
            rooted |= (rest & 1) << o;
            queued |= (rest >> 1 & 1) << o;
            watched |= (rest >> 2 & 1) << o;
            rest /= 8;
        }
    }

    /** The same heap by calls: those that are to be in the queue come into it before any field points. */
    private EphemeronHeap build() {
        EphemeronHeap heap = new EphemeronHeap();
        for (int o = 0; o < size; o++) {
            heap.make(kinds[o], o);
            if (has(queued, o)) {
                heap.watch(o);
                heap.root(o, NONE);
            }
        }
        heap.clean();
        for (int o = 0; o < size; o++) {
            heap.root(o, has(rooted, o) ? o : NONE);
            heap.point(o, 0, as[o]);
            heap.point(o, 1, bs[o]);
            if (has(watched, o)) {
                heap.watch(o);
            }
        }
        return heap;
    }

    private boolean hasWhatItKeeps(int set, int o) {
        if (kinds[o] == Heaps.PLAIN) {
            return hasOrNone(set, as[o]) && hasOrNone(set, bs[o]);
        }
        boolean waits = kinds[o] == Heaps.PAIR && !has(set, as[o]);
        return waits || hasOrNone(set, bs[o]);
    }

    private boolean isAsTheRuleAsks(int set) {
        boolean is = (set & rooted) == rooted && (set & queued) == queued;
        for (int o = 0; o < size; o++) {
            is &= !has(set, o) || hasWhatItKeeps(set, o);
        }
        return is;
    }

    /** Not grown from the roots, but what all sets that are as the rule asks have in common. */
    private int leastSet() {
        int common = (1 << size) - 1;
        for (int set = 0; set < 1 << size; set++) {
            common &= isAsTheRuleAsks(set) ? set : ~0;
        }
        return common;
    }

    private int leastSetWithoutFieldsOf(int o) {
        int a = as[o];
        int b = bs[o];
        as[o] = NONE;
        bs[o] = NONE;
        int set = leastSet();
        as[o] = a;
        bs[o] = b;
        return set;
    }

    private void look(Check check) {
        EphemeronHeap heap = build();
        int before = leastSet();
        check.due("alive()", heap.alive(), before);
        for (int o = 0; o < size; o++) {
            check.due("heldBy(" + o + ")", heap.heldBy(o), before & ~leastSetWithoutFieldsOf(o));
        }
        int coming = watched & ~before;
        int alreadyQueued = queued;
        queued |= coming;
        int now = leastSet();
        check.due("clean()", heap.clean(), size - Integer.bitCount(now));
        check.due("there()", heap.there(), now);
        check.due("alive() after clean()", heap.alive(), now);
        check.due("watched()", heap.watched(), watched & ~coming);
        check.due("queued()", heap.queued(), Integer.bitCount(queued));
        for (int o = 0; o < size; o++) {
            lookAtFields(check, heap, o, before, now);
            check.due("rootOf(" + o + ")", heap.rootOf(o), has(rooted, o) ? o : NONE);
        }
        lookAtQueue(check, heap, alreadyQueued);
        lookAtQueue(check, heap, coming);
        check.due("take(3) of an empty queue", heap.take(3), NONE);
    }

    private void lookAtFields(Check check, EphemeronHeap heap, int o, int before, int now) {
        boolean there = has(now, o);
        boolean weakAEnds = kinds[o] == Heaps.WEAK && !has(before, as[o]);
        boolean pairEnds = kinds[o] == Heaps.PAIR && !has(now, as[o]);
        check.due("kind(" + o + ")", heap.kind(o), there ? kinds[o] : NONE);
        check.due("field(" + o + ", 0)", heap.field(o, 0), there && !weakAEnds && !pairEnds ? as[o] : NONE);
        check.due("field(" + o + ", 1)", heap.field(o, 1), there && !pairEnds ? bs[o] : NONE);
    }

    private void lookAtQueue(Check check, EphemeronHeap heap, int set) {
        for (int o = 0; o < size; o++) {
            if (has(set, o)) {
                check.due("take(3)", heap.take(3), o);
            }
        }
    }

    /** Ends at the first heap with a wrong answer: the others would mostly tell the same fault. */
    private void lookAtAll(Check check, int step) {
        int heaps = heaps();
        for (int number = 0; number < heaps; number += step) {
            take(number);
            look(check);
            if (!check.allAsDue()) {
                take(number);
                System.out.println("with kinds " + Arrays.toString(kinds) + ", a " + Arrays.toString(as) + ", b "
                        + Arrays.toString(bs) + ", sets rooted " + rooted + ", queued " + queued + ", watched " + watched);
                return;
            }
        }
    }

    public static void main(String[] args) {
        Check check = new Check();
        new SmallHeapsTest(1).lookAtAll(check, 1);
        new SmallHeapsTest(2).lookAtAll(check, 1);
        new SmallHeapsTest(3).lookAtAll(check, args.length == 0 ? STEP : Integer.parseInt(args[0]));
        check.end();
    }
}

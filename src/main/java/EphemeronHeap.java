/** A heap that is cleaned, with plain objects, weak ones and pairs, and a queue for those that are told of their end. */
public final class EphemeronHeap {
    public static final int NONE = -1;
    public static final int FULL = -2;

    private static final int OBJECTS = 20;
    private static final int ROOTS = 4;

    private static final int PLAIN = 0;
    private static final int WEAK = 1;
    private static final int PAIR = 2;

    private static final int A = 0;
    private static final int B = 1;

    // What these three hold for a number that no object has is left over, and never read.
    private final int[] kinds = new int[OBJECTS];
    private final int[] aFields = new int[OBJECTS];
    private final int[] bFields = new int[OBJECTS];

    private final int[] roots = new int[ROOTS];

    // An object in the queue is alive and only one that is not comes in, so none is in it twice.
    private final int[] queue = new int[OBJECTS];
    private int queueLength = 0;

    // Sets of objects have bit o for object o, as the answers have.
    private int thereSet = 0;
    private int watchedSet = 0;

    public EphemeronHeap() {
        for (int r = 0; r < ROOTS; r++) {
            roots[r] = NONE;
        }
    }

    public int make(int kind, int r) {
        if (!isKind(kind) || !isRoot(r)) {
            return NONE;
        }
        int o = leastFreeNumber();
        if (o == FULL) {
            return FULL;
        }
        thereSet |= bitOf(o);
        kinds[o] = kind;
        aFields[o] = NONE;
        bFields[o] = NONE;
        roots[r] = o;
        return o;
    }

    public boolean point(int o, int which, int p) {
        if (!isThere(o) || !isThereOrNone(p) || !isField(which)) {
            return false;
        }
        if (which == A) {
            aFields[o] = p;
        } else {
            bFields[o] = p;
        }
        return true;
    }

    public boolean root(int r, int p) {
        if (!isRoot(r) || !isThereOrNone(p)) {
            return false;
        }
        roots[r] = p;
        return true;
    }

    public boolean watch(int o) {
        if (!isThere(o)) {
            return false;
        }
        watchedSet |= bitOf(o);
        return true;
    }

    public int clean() {
        int aliveBefore = findAlive(NONE);
        int ended = watchedSet & ~aliveBefore;
        enqueue(ended);
        watchedSet &= ~ended;
        int aliveNow = findAlive(NONE);
        int gone = thereSet & ~aliveNow;
        thereSet &= aliveNow;
        clearFields(aliveBefore, aliveNow);
        return count(gone);
    }

    public int take(int r) {
        if (!isRoot(r) || queueLength == 0) {
            return NONE;
        }
        int first = queue[0];
        for (int i = 1; i < queueLength; i++) {
            queue[i - 1] = queue[i];
        }
        queueLength--;
        roots[r] = first;
        return first;
    }

    public int objects() {
        return count(thereSet);
    }

    public int there() {
        return thereSet;
    }

    public int alive() {
        return findAlive(NONE);
    }

    public int field(int o, int which) {
        if (!isThere(o) || !isField(which)) {
            return NONE;
        }
        return which == A ? aFields[o] : bFields[o];
    }

    public int kind(int o) {
        return isThere(o) ? kinds[o] : NONE;
    }

    public int rootOf(int r) {
        return isRoot(r) ? roots[r] : NONE;
    }

    public int queued() {
        return queueLength;
    }

    public int watched() {
        return watchedSet;
    }

    public int heldBy(int o) {
        if (!isThere(o)) {
            return 0;
        }
        int withFields = findAlive(NONE);
        int withoutFields = findAlive(o);
        return withFields & ~withoutFields;
    }

    private static boolean isKind(int kind) {
        return kind >= PLAIN && kind <= PAIR;
    }

    private static boolean isRoot(int r) {
        return r >= 0 && r < ROOTS;
    }

    private static boolean isField(int which) {
        return which == A || which == B;
    }

    private boolean isThere(int o) {
        return o < OBJECTS && contains(thereSet, o);
    }

    private boolean isThereOrNone(int p) {
        return p == NONE || isThere(p);
    }

    private static boolean contains(int set, int o) {
        return o >= 0 && (set >> o & 1) == 1;
    }

    private static int bitOf(int o) {
        return o == NONE ? 0 : 1 << o;
    }

    private static int count(int set) {
        int members = 0;
        for (int o = 0; o < OBJECTS; o++) {
            members += set >> o & 1;
        }
        return members;
    }

    private int leastFreeNumber() {
        for (int o = 0; o < OBJECTS; o++) {
            if (!contains(thereSet, o)) {
                return o;
            }
        }
        return FULL;
    }

    /** The objects that are alive when the fields of object emptied count as pointing to nothing (NONE: no object's). */
    private int findAlive(int emptied) {
        int set = rootedOrQueued();
        // A round adds an object or there is none left to add, so as many rounds as objects find them all.
        for (int round = 0; round < OBJECTS; round++) {
            set = grow(set, emptied);
        }
        return set;
    }

    private int rootedOrQueued() {
        int set = 0;
        for (int r = 0; r < ROOTS; r++) {
            set |= bitOf(roots[r]);
        }
        for (int i = 0; i < queueLength; i++) {
            set |= bitOf(queue[i]);
        }
        return set;
    }

    private int grow(int set, int emptied) {
        int larger = set;
        for (int o = 0; o < OBJECTS; o++) {
            if (o != emptied && contains(set, o)) {
                larger |= keptBy(o, set);
            }
        }
        return larger;
    }

    private int keptBy(int o, int set) {
        int b = bitOf(bFields[o]);
        if (kinds[o] == PLAIN) {
            return b | bitOf(aFields[o]);
        }
        if (kinds[o] == PAIR && !contains(set, aFields[o])) {
            return 0;
        }
        return b;
    }

    private void enqueue(int set) {
        for (int o = 0; o < OBJECTS; o++) {
            if (contains(set, o) && queueLength < OBJECTS) {
                queue[queueLength] = o;
                queueLength++;
            }
        }
    }

    private void clearFields(int aliveBefore, int aliveNow) {
        for (int o = 0; o < OBJECTS; o++) {
            if (contains(thereSet, o)) {
                clearFieldsOf(o, aliveBefore, aliveNow);
            }
        }
    }

    private void clearFieldsOf(int o, int aliveBefore, int aliveNow) {
        // What was alive before is alive now too, so this also clears an a whose object is gone.
        if (kinds[o] == WEAK && !contains(aliveBefore, aFields[o])) {
            aFields[o] = NONE;
        }
        if (kinds[o] == PAIR && !contains(aliveNow, aFields[o])) {
            aFields[o] = NONE;
            bFields[o] = NONE;
        }
    }
}

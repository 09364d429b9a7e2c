/** Promises 1 to 4, 8, 9 and 11 to 13: making objects, and what they and the roots point to. */
public final class ObjectsTest {
    private static final int NONE = EphemeronHeap.NONE;
    private static final int FULL = EphemeronHeap.FULL;
    private static final int PLAIN = 0;
    private static final int WEAK = 1;
    private static final int PAIR = 2;
    private static final int[] NOT_ROOTS = {-1, -2, 4, 5, 32, 36, Integer.MIN_VALUE, Integer.MAX_VALUE};
    private static final int[] NOT_OBJECTS = {-2, -3, -32, 3, 19, 20, 21, 31, 32, 33, 64, Integer.MIN_VALUE, Integer.MAX_VALUE};
    private static final int[] NOT_FIELDS = {-1, 2, 3, 32, Integer.MIN_VALUE, Integer.MAX_VALUE};
    private static final Check check = new Check();

    private static EphemeronHeap three() {
        EphemeronHeap heap = new EphemeronHeap();
        heap.make(PLAIN, 0);
        heap.make(WEAK, 1);
        heap.make(PAIR, 2);
        return heap;
    }

    private static void promise1() {
        EphemeronHeap heap = new EphemeronHeap();
        check.due("1: objects()", heap.objects(), 0);
        check.due("1: there()", heap.there(), 0);
        check.due("1: alive()", heap.alive(), 0);
        check.due("1: queued()", heap.queued(), 0);
        check.due("1: watched()", heap.watched(), 0);
        for (int r = 0; r < 4; r++) {
            check.due("1: rootOf(" + r + ")", heap.rootOf(r), NONE);
        }
        check.due("1: clean()", heap.clean(), 0);
    }

    private static void promise1HeapsAreApart() {
        EphemeronHeap first = three();
        EphemeronHeap second = new EphemeronHeap();
        first.watch(0);
        check.due("1: another heap's objects()", second.objects(), 0);
        check.due("1: another heap's watched()", second.watched(), 0);
        check.due("1: another heap's make()", second.make(WEAK, 3), 0);
        check.due("1: the first heap's kind(0)", first.kind(0), PLAIN);
    }

    private static void promise2() {
        EphemeronHeap heap = new EphemeronHeap();
        int[] kinds = {PLAIN, WEAK, PAIR};
        for (int o = 0; o < 3; o++) {
            check.due("2: make(" + kinds[o] + ", 3)", heap.make(kinds[o], 3), o);
            check.due("2: kind", heap.kind(o), kinds[o]);
            check.due("2: field a", heap.field(o, 0), NONE);
            check.due("2: field b", heap.field(o, 1), NONE);
            check.due("2: rootOf(3)", heap.rootOf(3), o);
        }
        for (int r = 0; r < 3; r++) {
            check.due("2: a root that was not named", heap.rootOf(r), NONE);
        }
        check.due("2: objects()", heap.objects(), 3);
    }

    private static void promise2WrongInputs() {
        EphemeronHeap heap = three();
        String before = Check.state(heap);
        for (int kind : new int[] {-1, -2, 3, 4, Integer.MIN_VALUE, Integer.MAX_VALUE}) {
            check.due("2: make(" + kind + ", 0)", heap.make(kind, 0), NONE);
            check.due("2: make(" + kind + ", 4)", heap.make(kind, 4), NONE);
        }
        for (int r : NOT_ROOTS) {
            check.due("2: make(0, " + r + ")", heap.make(PLAIN, r), NONE);
        }
        check.same("2: after wrong make()", Check.state(heap), before);
    }

    private static void promise2Full() {
        EphemeronHeap heap = new EphemeronHeap();
        for (int o = 0; o < 20; o++) {
            check.due("2: make() of the twenty", heap.make(o % 3, 0), o);
        }
        String before = Check.state(heap);
        check.due("2: make() when full, though 19 are not alive", heap.make(PLAIN, 1), FULL);
        check.due("2: make() when full", heap.make(PAIR, 0), FULL);
        check.due("2: wrong kind when full", heap.make(3, 0), NONE);
        check.due("2: wrong root when full", heap.make(0, 4), NONE);
        check.same("2: after make() when full", Check.state(heap), before);
        check.due("8: objects()", heap.objects(), 20);
        check.due("9: there()", heap.there(), 0xFFFFF);
    }

    private static void promise2UsesNumbersAgain() {
        EphemeronHeap heap = new EphemeronHeap();
        for (int o = 0; o < 6; o++) {
            heap.make(PLAIN, 0);
        }
        heap.point(5, 0, 1);
        heap.point(5, 1, 3);
        heap.point(2, 0, 4);
        heap.point(2, 1, 5);
        check.due("2: clean()", heap.clean(), 3);
        check.due("9: there()", heap.there(), Check.set(1, 3, 5));
        check.due("2: the least free number", heap.make(WEAK, 1), 0);
        check.due("2: the next", heap.make(PAIR, 2), 2);
        check.due("2: the kind of a number used again", heap.kind(2), PAIR);
        check.due("2: field a of a number used again", heap.field(2, 0), NONE);
        check.due("2: field b of a number used again", heap.field(2, 1), NONE);
        check.due("2: watched() of a number used again", heap.watched(), 0);
        check.due("2: the next", heap.make(PLAIN, 3), 4);
        check.due("2: the next", heap.make(PLAIN, 3), 6);
        check.due("2: the object that was there keeps its field", heap.field(5, 1), 3);
    }

    private static void promise3And11() {
        for (int o = 0; o < 3; o++) {
            for (int which = 0; which < 2; which++) {
                for (int p = 0; p < 3; p++) {
                    EphemeronHeap heap = three();
                    String call = "point(" + o + ", " + which + ", " + p + ")";
                    check.due("3: " + call, heap.point(o, which, p), true);
                    check.due("11: the field after " + call, heap.field(o, which), p);
                    check.due("11: the other field after " + call, heap.field(o, 1 - which), NONE);
                    check.due("11: another object's field", heap.field((o + 1) % 3, which), NONE);
                    check.due("3: back to nothing", heap.point(o, which, NONE), true);
                    check.due("11: a field of nothing", heap.field(o, which), NONE);
                }
            }
        }
    }

    private static void promise3PointsAnew() {
        EphemeronHeap heap = three();
        heap.point(0, 0, 1);
        heap.point(0, 1, 2);
        check.due("3: point anew", heap.point(0, 0, 2), true);
        check.due("11: field a", heap.field(0, 0), 2);
        check.due("11: field b", heap.field(0, 1), 2);
        heap.root(1, NONE);
        check.due("3: to one that is there but not alive", heap.point(2, 1, 1), true);
        check.due("3: of one that is there but not alive", heap.point(1, 0, 2), true);
        check.due("11: field of one that is not alive", heap.field(1, 0), 2);
    }

    private static void promise3WrongInputs() {
        EphemeronHeap heap = three();
        heap.point(0, 0, 1);
        heap.point(0, 1, 2);
        String before = Check.state(heap);
        for (int p : NOT_OBJECTS) {
            check.due("3: point to " + p, heap.point(0, 0, p), false);
            check.due("3: point of " + p, heap.point(p, 1, 0), false);
            check.due("3: point of " + p + " to nothing", heap.point(p, 1, NONE), false);
            check.due("11: field of " + p, heap.field(p, 0), NONE);
            check.due("11: field of " + p, heap.field(p, 1), NONE);
        }
        check.due("3: point of nothing", heap.point(NONE, 0, 0), false);
        check.due("11: field of nothing", heap.field(NONE, 0), NONE);
        for (int which : NOT_FIELDS) {
            check.due("3: point field " + which, heap.point(0, which, 0), false);
            check.due("3: point field " + which + " to nothing", heap.point(0, which, NONE), false);
            check.due("11: field " + which, heap.field(0, which), NONE);
        }
        check.same("3: after wrong point()", Check.state(heap), before);
    }

    private static void promise4And13() {
        EphemeronHeap heap = three();
        for (int r = 0; r < 4; r++) {
            for (int p = 0; p < 3; p++) {
                check.due("4: root(" + r + ", " + p + ")", heap.root(r, p), true);
                check.due("13: rootOf(" + r + ")", heap.rootOf(r), p);
            }
        }
        check.due("4: root(2, NONE)", heap.root(2, NONE), true);
        check.due("13: rootOf(2)", heap.rootOf(2), NONE);
        check.due("13: rootOf(1)", heap.rootOf(1), 2);
        check.due("13: rootOf(3)", heap.rootOf(3), 2);
        check.due("4: one that is there but not alive", heap.root(0, 1), true);
        check.due("10: alive()", heap.alive(), Check.set(1, 2));
    }

    private static void promise4WrongInputs() {
        EphemeronHeap heap = three();
        String before = Check.state(heap);
        for (int r : NOT_ROOTS) {
            check.due("4: root(" + r + ", 0)", heap.root(r, 0), false);
            check.due("4: root(" + r + ", NONE)", heap.root(r, NONE), false);
            check.due("13: rootOf(" + r + ")", heap.rootOf(r), NONE);
        }
        for (int p : NOT_OBJECTS) {
            check.due("4: root(0, " + p + ")", heap.root(0, p), false);
        }
        check.same("4: after wrong root()", Check.state(heap), before);
    }

    private static void promise8And9() {
        EphemeronHeap heap = new EphemeronHeap();
        for (int o = 0; o < 20; o++) {
            heap.make(PLAIN, 0);
            check.due("8: objects()", heap.objects(), o + 1);
            check.due("9: there()", heap.there(), (1 << o + 1) - 1);
        }
        heap.clean();
        check.due("8: objects() when cleaned", heap.objects(), 1);
        check.due("9: there() when cleaned", heap.there(), Check.set(19));
        heap.root(0, NONE);
        check.due("8: objects() that are not alive count", heap.objects(), 1);
        check.due("9: there() that are not alive count", heap.there(), Check.set(19));
    }

    private static void promise12() {
        EphemeronHeap heap = three();
        check.due("12: kind(0)", heap.kind(0), PLAIN);
        check.due("12: kind(1)", heap.kind(1), WEAK);
        check.due("12: kind(2)", heap.kind(2), PAIR);
        check.due("12: kind(NONE)", heap.kind(NONE), NONE);
        for (int o : NOT_OBJECTS) {
            check.due("12: kind(" + o + ")", heap.kind(o), NONE);
        }
        heap.root(1, NONE);
        check.due("12: kind of one that is not alive", heap.kind(1), WEAK);
        heap.clean();
        check.due("12: kind of one that is gone", heap.kind(1), NONE);
        check.due("11: field of one that is gone", heap.field(1, 0), NONE);
        check.due("3: point to one that is gone", heap.point(0, 0, 1), false);
        check.due("3: point of one that is gone", heap.point(1, 0, 0), false);
        check.due("4: root to one that is gone", heap.root(0, 1), false);
    }

    private static void promise11FieldsOfOneThatIsGone() {
        EphemeronHeap heap = Check.unrooted(PLAIN, PLAIN);
        heap.root(0, 0);
        heap.point(1, 0, 0);
        heap.point(1, 1, 0);
        heap.clean();
        check.due("11: field a of one that is gone", heap.field(1, 0), NONE);
        check.due("11: field b of one that is gone", heap.field(1, 1), NONE);
    }

    public static void main(String[] args) {
        check.due("the constant NONE", NONE, -1);
        check.due("the constant FULL", FULL, -2);
        promise1();
        promise1HeapsAreApart();
        promise2();
        promise2WrongInputs();
        promise2Full();
        promise2UsesNumbersAgain();
        promise3And11();
        promise3PointsAnew();
        promise3WrongInputs();
        promise4And13();
        promise4WrongInputs();
        promise8And9();
        promise12();
        promise11FieldsOfOneThatIsGone();
        check.end();
    }
}

/** Counts and prints the answers that are not the ones that are due. */
final class Check {
    private int wrong = 0;
    private int looked = 0;

    void due(String what, long got, long want) {
        looked++;
        if (got != want) {
            wrong++;
            System.out.println(what + " answered " + got + ", due is " + want);
        }
    }

    void due(String what, boolean got, boolean want) {
        due(what, got ? 1 : 0, want ? 1 : 0);
    }

    /** Looks at every answer that a look at the heap gives, so that a call that must change nothing can be told. */
    static String state(EphemeronHeap heap) {
        StringBuilder text = new StringBuilder();
        text.append("objects ").append(heap.objects()).append(" there ").append(heap.there());
        text.append(" alive ").append(heap.alive()).append(" queued ").append(heap.queued());
        text.append(" watched ").append(heap.watched()).append(" roots");
        for (int r = 0; r < 4; r++) {
            text.append(' ').append(heap.rootOf(r));
        }
        for (int o = 0; o < 20; o++) {
            text.append(" | ").append(heap.kind(o)).append(' ').append(heap.field(o, 0));
            text.append(' ').append(heap.field(o, 1)).append(' ').append(heap.heldBy(o));
        }
        return text.toString();
    }

    void same(String what, String got, String want) {
        looked++;
        if (!got.equals(want)) {
            wrong++;
            System.out.println(what + ":\n  is  " + got + "\n  due " + want);
        }
    }

    void end() {
        System.out.println(looked + " answers, " + wrong + " of them not as due");
        if (wrong != 0) {
            System.exit(1);
        }
    }

    /** The set that has these objects. */
    static int set(int... objects) {
        int bits = 0;
        for (int o : objects) {
            bits |= 1 << o;
        }
        return bits;
    }

    /** A heap of objects 0, 1, .. of these kinds, which nothing keeps alive. */
    static EphemeronHeap unrooted(int... kinds) {
        EphemeronHeap heap = new EphemeronHeap();
        for (int kind : kinds) {
            heap.make(kind, 0);
        }
        heap.root(0, EphemeronHeap.NONE);
        return heap;
    }
}

import java.util.function.Supplier;
import java.util.function.ToLongFunction;

/** Counts and prints the answers that are not the ones that are due. */
final class Check {
    private int wrong = 0;
    private int looked = 0;

    void due(String what, long got, long want) {
        looked++;
        if (got != want) {
            wrong++;
            System.out.println(what + " answered " + got + ", due is " + want);
        }
    }

    void due(String what, boolean got, boolean want) {
        due(what, got ? 1 : 0, want ? 1 : 0);
    }

    void same(String what, String got, String want) {
        looked++;
        if (!got.equals(want)) {
            wrong++;
            System.out.println(what + ":\n  is  " + got + "\n  due " + want);
        }
    }

    /** Of two heaps built alike one is asked: it gives the answer due, and then both go on alike. */
    void changesNothing(String what, Supplier<EphemeronHeap> build, ToLongFunction<EphemeronHeap> call, long want) {
        EphemeronHeap asked = build.get();
        due(what, call.applyAsLong(asked), want);
        same("after " + what, future(asked), future(build.get()));
    }

    boolean allAsDue() {
        return looked > 0 && wrong == 0;
    }

    void end() {
        System.out.println(looked + " answers, " + wrong + " of them not as due");
        if (!allAsDue()) {
            System.exit(1);
        }
    }

    /** Every answer that a look at the heap gives, in 89 calls. */
    static String state(EphemeronHeap heap) {
        StringBuilder text = new StringBuilder();
        text.append("objects ").append(heap.objects()).append(" there ").append(heap.there());
        text.append(" alive ").append(heap.alive()).append(" queued ").append(heap.queued());
        text.append(" watched ").append(heap.watched()).append(" roots");
        for (int r = 0; r < 4; r++) {
            text.append(' ').append(heap.rootOf(r));
        }
        for (int o = 0; o < 20; o++) {
            text.append(" | ").append(heap.kind(o)).append(' ').append(heap.field(o, 0));
            text.append(' ').append(heap.field(o, 1)).append(' ').append(heap.heldBy(o));
        }
        return text.toString();
    }

    /** The state, and what only later calls show: the queue's order, who is put into it, which numbers are free. */
    private static String future(EphemeronHeap heap) {
        StringBuilder text = new StringBuilder(state(heap));
        text.append("\n  taken");
        for (int i = 0; i < 21; i++) {
            text.append(' ').append(heap.take(0));
        }
        for (int r = 0; r < 4; r++) {
            heap.root(r, EphemeronHeap.NONE);
        }
        text.append("\n  gone ").append(heap.clean()).append(' ').append(state(heap)).append("\n  made");
        for (int i = 0; i < 21; i++) {
            text.append(' ').append(heap.make(0, 0));
        }
        return text.append("\n  ").append(state(heap)).toString();
    }

    /** The set that has these objects. */
    static int set(int... objects) {
        int bits = 0;
        for (int o : objects) {
            bits |= 1 << o;
        }
        return bits;
    }
}

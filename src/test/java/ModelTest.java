import java.util.ArrayDeque;
import java.util.Arrays;
import java.util.Deque;
import java.util.HashSet;
import java.util.Map;
import java.util.Set;
import java.util.TreeMap;
import java.util.TreeSet;

/** All promises: long mixed runs of calls, each answer compared with that of a model written straight from the document. */
public final class ModelTest {
    private static final int RUNS = 6000;
    private static final int CALLS = 512;

    private static final class Model {
        private static final int NONE = -1;
        private static final int FULL = -2;

        private static final class Thing {
            final int kind;
            Integer a;
            Integer b;

            Thing(int kind) {
                this.kind = kind;
            }
        }

        private final Map<Integer, Thing> things = new TreeMap<>();
        private final Integer[] roots = new Integer[4];
        private final Deque<Integer> queue = new ArrayDeque<>();
        private final Set<Integer> watched = new TreeSet<>();

        private static Integer target(int p) {
            return p == NONE ? null : Integer.valueOf(p);
        }

        private static int number(Integer target) {
            return target == null ? NONE : target;
        }

        private static int bits(Set<Integer> set) {
            int bits = 0;
            for (int o : set) {
                bits |= 1 << o;
            }
            return bits;
        }

        private boolean isTarget(int p) {
            return p == NONE || things.containsKey(p);
        }

        private Set<Integer> living(Integer without) {
            Set<Integer> set = new HashSet<>(queue);
            set.addAll(Arrays.asList(roots));
            set.remove(null);
            int size;
            do {
                size = set.size();
                for (Map.Entry<Integer, Thing> entry : things.entrySet()) {
                    Thing thing = entry.getValue();
                    if (set.contains(entry.getKey()) && !entry.getKey().equals(without)) {
                        if (thing.kind == 0) {
                            set.add(thing.a);
                        }
                        if (thing.kind != 2 || thing.a != null && set.contains(thing.a)) {
                            set.add(thing.b);
                        }
                        set.remove(null);
                    }
                }
            } while (set.size() > size);
            return set;
        }

        int make(int kind, int r) {
            if (kind < 0 || kind > 2 || r < 0 || r > 3) {
                return NONE;
            }
            if (things.size() == 20) {
                return FULL;
            }
            int o = 0;
            while (things.containsKey(o)) {
                o++;
            }
            things.put(o, new Thing(kind));
            roots[r] = o;
            return o;
        }

        int point(int o, int which, int p) {
            if (!things.containsKey(o) || !isTarget(p) || which != 0 && which != 1) {
                return 0;
            }
            if (which == 0) {
                things.get(o).a = target(p);
            } else {
                things.get(o).b = target(p);
            }
            return 1;
        }

        int root(int r, int p) {
            if (r < 0 || r > 3 || !isTarget(p)) {
                return 0;
            }
            roots[r] = target(p);
            return 1;
        }

        int watch(int o) {
            if (!things.containsKey(o)) {
                return 0;
            }
            watched.add(o);
            return 1;
        }

        int clean() {
            Set<Integer> before = living(null);
            Set<Integer> ended = new TreeSet<>(watched);
            ended.removeAll(before);
            queue.addAll(ended);
            watched.removeAll(ended);
            Set<Integer> now = living(null);
            for (Thing thing : things.values()) {
                if (thing.kind == 1 && !now.contains(thing.a)) {
                    thing.a = null;
                }
                if (thing.kind == 1 && (ended.contains(number(thing.a)) || !before.contains(thing.a))) {
                    thing.a = null;
                }
                if (thing.kind == 2 && (thing.a == null || !now.contains(thing.a))) {
                    thing.a = null;
                    thing.b = null;
                }
            }
            int size = things.size();
            things.keySet().retainAll(now);
            return size - things.size();
        }

        int take(int r) {
            if (queue.isEmpty() || r < 0 || r > 3) {
                return NONE;
            }
            roots[r] = queue.removeFirst();
            return roots[r];
        }

        int field(int o, int which) {
            if (!things.containsKey(o) || which != 0 && which != 1) {
                return NONE;
            }
            return number(which == 0 ? things.get(o).a : things.get(o).b);
        }

        int kind(int o) {
            return things.containsKey(o) ? things.get(o).kind : NONE;
        }

        int rootOf(int r) {
            return r < 0 || r > 3 ? NONE : number(roots[r]);
        }

        int heldBy(int o) {
            if (!things.containsKey(o)) {
                return 0;
            }
            Set<Integer> held = living(null);
            held.removeAll(living(o));
            return bits(held);
        }
    }

    private static final String[] CALL_NAMES = {"make", "point", "root", "watch", "clean", "take", "objects", "there",
            "alive", "field", "kind", "rootOf", "queued", "watched", "heldBy"};
    private static final int[] ARGUMENTS = {2, 3, 2, 1, 0, 1, 0, 0, 0, 2, 1, 1, 0, 0, 1};

    private static int askHeap(EphemeronHeap heap, int call, int x, int y, int z) {
        switch (call) {
            case 0: return heap.make(x, y);
            case 1: return heap.point(x, y, z) ? 1 : 0;
            case 2: return heap.root(x, y) ? 1 : 0;
            case 3: return heap.watch(x) ? 1 : 0;
            case 4: return heap.clean();
            case 5: return heap.take(x);
            case 6: return heap.objects();
            case 7: return heap.there();
            case 8: return heap.alive();
            case 9: return heap.field(x, y);
            case 10: return heap.kind(x);
            case 11: return heap.rootOf(x);
            case 12: return heap.queued();
            case 13: return heap.watched();
            default: return heap.heldBy(x);
        }
    }

    private static int askModel(Model model, int call, int x, int y, int z) {
        switch (call) {
            case 0: return model.make(x, y);
            case 1: return model.point(x, y, z);
            case 2: return model.root(x, y);
            case 3: return model.watch(x);
            case 4: return model.clean();
            case 5: return model.take(x);
            case 6: return model.things.size();
            case 7: return Model.bits(model.things.keySet());
            case 8: return Model.bits(model.living(null));
            case 9: return model.field(x, y);
            case 10: return model.kind(x);
            case 11: return model.rootOf(x);
            case 12: return model.queue.size();
            case 13: return Model.bits(model.watched);
            default: return model.heldBy(x);
        }
    }

    /** The same row of numbers in every run of this test. */
    private static final class Numbers {
        private long state;

        Numbers(long seed) {
            state = seed * 0x9E3779B97F4A7C15L + 1;
        }

        int below(int bound) {
            state = state * 6364136223846793005L + 1442695040888963407L;
            return (int) ((state >>> 33) % bound);
        }

        /** Mostly 0 .. bound - 1, now and then NONE or a number that nothing has. */
        int argument(int bound) {
            int[] wrong = {-2, bound, bound + 1, 20, 31, 32, 33, Integer.MIN_VALUE, Integer.MAX_VALUE};
            int lot = below(40);
            if (lot == 0) {
                return wrong[below(wrong.length)];
            }
            return lot < 4 ? -1 : below(bound);
        }
    }

    private static int first(Numbers numbers, int call) {
        boolean ofRoots = call == 2 || call == 5 || call == 11;
        return numbers.argument(call == 0 ? 3 : ofRoots ? 4 : 20);
    }

    private static int second(Numbers numbers, int call) {
        return numbers.argument(call == 0 ? 4 : call == 2 ? 20 : 2);
    }

    /** How often each call comes; some runs clean seldom, so that the heap gets full and the webs large. */
    private static int[] weights(int run) {
        int clean = new int[] {1, 3, 10}[run % 3];
        int make = new int[] {12, 25}[run / 3 % 2];
        int watch = new int[] {2, 8}[run / 6 % 2];
        return new int[] {make, 30, 6, watch, clean, 2, 1, 2, 3, 6, 2, 2, 1, 2, 6};
    }

    private static int pick(Numbers numbers, int[] weights) {
        int lot = numbers.below(Arrays.stream(weights).sum());
        int call = 0;
        while (lot >= weights[call]) {
            lot -= weights[call];
            call++;
        }
        return call;
    }

    private static String told(int call, int x, int y, int z) {
        int[] all = {x, y, z};
        String list = Arrays.toString(Arrays.copyOf(all, ARGUMENTS[call]));
        return CALL_NAMES[call] + "(" + list.substring(1, list.length() - 1) + ")";
    }

    /** Answers false at the first wrong answer: what comes after it tells nothing more. */
    private static boolean runIsRight(int run) {
        Numbers numbers = new Numbers(run);
        int[] weights = weights(run);
        EphemeronHeap heap = new EphemeronHeap();
        Model model = new Model();
        StringBuilder calls = new StringBuilder();
        for (int i = 0; i < CALLS; i++) {
            int call = pick(numbers, weights);
            int x = first(numbers, call);
            int y = second(numbers, call);
            int z = numbers.argument(20);
            int got = askHeap(heap, call, x, y, z);
            int want = askModel(model, call, x, y, z);
            calls.append(told(call, x, y, z)).append(' ').append(got).append('\n');
            if (got != want) {
                System.out.println("run " + run + ", due is " + want + " at the last of:\n" + calls);
                return false;
            }
        }
        return true;
    }

    public static void main(String[] args) {
        for (int run = 0; run < RUNS; run++) {
            if (!runIsRight(run)) {
                System.exit(1);
            }
        }
        System.out.println(RUNS + " runs of " + CALLS + " calls, all answers as due");
    }
}

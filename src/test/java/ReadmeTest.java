import java.io.IOException;
import java.nio.file.Files;
import java.nio.file.Path;
import java.util.List;

/** README.md's example answers what its comments say. */
public final class ReadmeTest {
    private static final int NONE = EphemeronHeap.NONE;

    static void theExample(Check check) {
        EphemeronHeap heap = new EphemeronHeap();
        int table = heap.make(2, 0);
        int key = heap.make(0, 1);
        int value = heap.make(0, 2);
        heap.point(table, 0, key);
        heap.point(table, 1, value);
        heap.root(2, NONE);
        check.due("heap.alive();", heap.alive(), 7);
        check.due("heap.heldBy(table);", heap.heldBy(table), 4);
        heap.watch(key);
        heap.root(1, NONE);
        check.due("the first heap.clean();", heap.clean(), 0);
        check.due("heap.take(3);", heap.take(3), 1);
        heap.root(3, NONE);
        check.due("the second heap.clean();", heap.clean(), 2);
    }

    /** So that a change of the example in README.md is not forgotten here. */
    static void theExampleIsTheOneAbove(Check check) throws IOException {
        List<String> due = List.of("EphemeronHeap heap = new EphemeronHeap();", "int table = heap.make(2, 0);",
                "int key = heap.make(0, 1);", "int value = heap.make(0, 2);", "heap.point(table, 0, key);",
                "heap.point(table, 1, value);", "heap.root(2, EphemeronHeap.NONE);", "heap.alive(); // 7",
                "heap.heldBy(table); // 4", "heap.watch(key);", "heap.root(1, EphemeronHeap.NONE);", "heap.clean(); // 0",
                "heap.take(3); // 1", "heap.root(3, EphemeronHeap.NONE);", "heap.clean(); // 2");
        String readme = Files.readString(Path.of("README.md"));
        int from = readme.indexOf("```java\n") + "```java\n".length();
        String example = readme.substring(from, readme.indexOf("```", from));
        String calls = example.replaceAll(" +// ([0-9]+):.*", " // $1").replaceAll(" +// [^0-9].*", "");
        check.same("the example", calls, String.join("\n", due) + "\n");
    }

    public static void main(String[] args) {
        Runner.run(ReadmeTest.class);
    }
}

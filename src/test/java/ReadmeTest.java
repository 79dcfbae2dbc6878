import java.io.IOException;
import java.nio.file.Files;
import java.nio.file.Path;
import java.util.ArrayList;
import java.util.List;

/** README.md's example: its calls are those made here, and answer what it says. */
public final class ReadmeTest {
  private static final RefHeap heap = new RefHeap(600, 64);
  private static final List<String> calls = new ArrayList<>();

  public static void main(String[] args) throws IOException {
    calls.add("RefHeap heap = new RefHeap(600, 64);");
    answered("heap.queue(1)", heap.queue(1));
    answered("heap.plain(2, 1, 1)", heap.plain(2, 1, 1));
    answered("heap.set(2, 0, 7)", heap.set(2, 0, 7));
    answered("heap.loose(3, 1, 2, 1)", heap.loose(3, 1, 2, 1));
    answered("heap.pair(4, 2, 1, -1)", heap.pair(4, 2, 1, -1));
    answered("heap.copy(2, -1)", heap.copy(2, -1));
    answered("heap.collect(false)", heap.collect(false));
    answered("heap.referent(5, 4, true)", heap.referent(5, 4, true));
    answered("heap.poll(6, 1)", heap.poll(6, 1));
    answered("heap.same(3, 6)", heap.same(3, 6));
    answered("heap.count(0)", heap.count(0));
    Due.text("README.md's example", example().toString(), calls.toString());
    Due.finish();
  }

  private static void answered(String call, Object answer) {
    calls.add(call + "; // " + answer);
  }

  /** The example's lines, each without what follows the answer. */
  private static List<String> example() throws IOException {
    List<String> lines = new ArrayList<>();
    boolean inside = false;
    for (String line : Files.readAllLines(Path.of("README.md"))) {
      if (line.startsWith("```")) {
        inside = line.equals("```java");
      } else if (inside) {
        lines.add(line.replaceAll(" +//", " //").replaceAll("(// \\w+):.*", "$1"));
      }
    }
    return lines;
  }
}

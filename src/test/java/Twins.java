import java.util.function.Supplier;
import java.util.function.ToLongFunction;

/**
 * Shows that a refused call changes nothing: of two heaps made alike it is tried on one, and then
 * both have to tell the same story.
 */
final class Twins {
  /** The roots that the heaps below do not have; -1 is among them, for where it is not said. */
  static final int[] NO_ROOTS = {Integer.MIN_VALUE, -2, -1, 66, 67, 384, Integer.MAX_VALUE};
  /** Likewise, where -1 means null. */
  static final int[] NO_ROOTS_NOR_NULL = {
    Integer.MIN_VALUE, -3, -2, 66, 67, 384, Integer.MAX_VALUE
  };
  static final int[] NEGATIVES = {Integer.MIN_VALUE, -2, -1};

  private static final int SCRATCH = 30;
  private static final int[] READ = {
    0, 1, 2, 3, 4, 5, 6, 7, 8, 9, 10, 11, 12, 13, 14, 15, 63, 64, 65
  };
  private static final String MIXED_STORY = story(mixed());
  private static final String FULL_STORY = story(full());

  private Twins() {}

  static void bad(String call, ToLongFunction<RefHeap> tried) {
    refused(call, tried, "throws.IllegalArgumentException");
  }

  static void state(String call, ToLongFunction<RefHeap> tried) {
    refused(call, tried, "throws.IllegalStateException");
  }

  /** On a full heap a making call has to be refused ahead of the collections for its room. */
  private static void refused(String call, ToLongFunction<RefHeap> tried, String due) {
    refusedOn(call, tried, due, mixed(), MIXED_STORY);
    refusedOn(call + " on a full heap", tried, due, full(), FULL_STORY);
  }

  static void refusedOn(
      String call, ToLongFunction<RefHeap> tried, String due, Supplier<RefHeap> made) {
    refusedOn(call, tried, due, made.get(), story(made.get()));
  }

  private static void refusedOn(
      String call, ToLongFunction<RefHeap> tried, String due, RefHeap x, String untouched) {
    Due.text(call, Due.outcome(() -> tried.applyAsLong(x)), due);
    Due.text("all that the heap tells after " + call, story(x), untouched);
  }

  /**
   * Something of every kind: root 0 plain (2 refs, 2 numbers), 1 refs (3), 2 numbers (3), 3 an
   * empty queue, 4 soft, 5 weak, 6 phantom, 7 pair, 8 plain without fields, 9 null, 10 weak
   * without a queue, 11 a queue with two, 12 what the loose ones are of, 13 null, 14 a pair that
   * let go untold, 15 soft that alone keeps its referent; of a scope, 64 plain, 65 null.
   */
  static RefHeap mixed() {
    RefHeap x = new RefHeap(600, 64);
    x.every(3);
    x.plain(0, 2, 2);
    x.row(1, 3, true);
    x.row(2, 3, false);
    x.queue(3);
    x.plain(8, 0, 0);
    x.queue(11);
    x.plain(12, 1, 0);
    fillFields(x);
    x.loose(4, 0, 12, 3);
    x.loose(5, 1, 12, 3);
    x.loose(6, 2, 12, 3);
    x.plain(13, 0, 1);
    x.pair(7, 12, 13, 3);
    x.copy(13, -1);
    x.loose(10, 1, 12, -1);
    leaveTwoWaiting(x);
    x.pair(14, 12, 0, 3);
    x.clear(14, false);
    x.plain(13, 1, 0);
    x.loose(15, 0, 13, 11);
    x.copy(13, -1);
    x.open(2);
    x.copy(64, 0);
    x.hash(8);
    return x;
  }

  private static void fillFields(RefHeap x) {
    x.link(0, 0, 1);
    x.link(1, 0, 0);
    x.link(1, 2, 8);
    x.set(0, 0, 5);
    x.set(0, 1, -6);
    x.set(2, 2, 77);
  }

  private static void leaveTwoWaiting(RefHeap x) {
    for (int n = 0; n < 2; n++) {
      x.loose(13, n, 8, 11);
      x.clear(13, true);
    }
    x.copy(13, -1);
  }

  /** Like mixed, and filled with what is not held: each new object needs a collection first. */
  static RefHeap full() {
    RefHeap x = mixed();
    x.row(9, 600 - x.count(0) - 2, false);
    x.copy(9, -1);
    return x;
  }

  /** Uses the heap up; the calls of all this stay below the 512 that are promised. */
  static String story(RefHeap x) {
    StringBuilder told = new StringBuilder();
    counts(x, told);
    for (int i : READ) {
      tell(told, () -> x.kind(i));
      tell(told, () -> x.digest(i));
      tell(told, () -> x.hash(i));
    }
    for (int i : READ) {
      loose(x, i, told);
    }
    line(x, 3, told);
    line(x, 11, told);
    letGo(x, told);
    for (int i : READ) {
      tell(told, () -> x.copy(i, -1));
      tell(told, () -> x.collect(i % 2 == 0));
    }
    counts(x, told);
    for (int n = 0; n < 21; n++) {
      tell(told, x::close);
    }
    tell(told, () -> x.row(0, 598, true));
    tell(told, () -> x.queue(1));
    counts(x, told);
    return told.toString();
  }

  private static void tell(StringBuilder told, Due.Call call) {
    told.append(Due.outcome(call)).append(' ');
  }

  private static void counts(RefHeap x, StringBuilder told) {
    for (int what = 0; what < 10; what++) {
      int which = what;
      tell(told, () -> x.count(which));
    }
  }

  private static void loose(RefHeap x, int i, StringBuilder told) {
    String kind = Due.outcome(() -> x.kind(i));
    if (kind.equals("4") || kind.equals("5") || kind.equals("7")) {
      tell(told, () -> x.referent(SCRATCH, i, false));
      tell(told, () -> x.hash(SCRATCH));
    }
    if (kind.equals("7")) {
      tell(told, () -> x.referent(SCRATCH, i, true));
      tell(told, () -> x.hash(SCRATCH));
    }
    x.copy(SCRATCH, -1);
  }

  private static void letGo(RefHeap x, StringBuilder told) {
    tell(told, () -> x.copy(4, -1));
    tell(told, () -> x.copy(12, -1));
    tell(told, () -> x.collect(false));
    line(x, 3, told);
    tell(told, () -> x.collect(true));
    line(x, 11, told);
  }

  private static void line(RefHeap x, int i, StringBuilder told) {
    String waiting = Due.outcome(() -> x.waiting(i));
    told.append(waiting).append(": ");
    for (int n = 0; n < 4 && !waiting.startsWith("throws"); n++) {
      tell(told, () -> x.poll(SCRATCH, i));
      tell(told, () -> x.hash(SCRATCH));
    }
  }
}

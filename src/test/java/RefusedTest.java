import java.util.function.ToLongFunction;

/**
 * Term 4, call by call: what throws, that a wrong argument is looked at ahead of what the roots
 * are, and that what throws changes nothing (Twins compares all that the heap tells). What stands
 * in which root is said at Twins.mixed.
 */
public final class RefusedTest {
  private static final int[] NOT_QUEUES = {0, 1, 2, 4, 5, 6, 7, 9, 65};
  private static final int[] NOT_LOOSE = {0, 1, 2, 3, 9, 11, 65};
  private static final int[] NOT_PAIRS = {0, 1, 2, 3, 4, 5, 6, 9, 10, 65};
  private static final int[] NO_FIELDS = {3, 4, 5, 6, 7, 9, 65};

  public static void main(String[] args) {
    nothingIsRefusedHere();
    making();
    makingLoose();
    makingPairs();
    copy();
    link();
    fetch();
    set();
    get();
    referent();
    give();
    clear();
    poll();
    waiting();
    kindHashAndDigest();
    same();
    open();
    close();
    every();
    count();
    Due.finish();
  }

  /** The last roots that are there, so that the refusals above them are at the very edge. */
  private static void nothingIsRefusedHere() {
    Due.says("Term 4, 'Where a ROOT's number is none there'");
    int[] there = {0, 63, 64, 65};
    for (int i : there) {
      Due.holds("kind(" + i + ") of a root that is there", Twins.mixed().kind(i) >= -1);
      Due.holds("hash(" + i + ")", Twins.mixed().hash(i) >= 0);
      Due.equal("queue(" + i + ")", Twins.mixed().queue(i), 3);
      Due.equal("copy(" + i + ", 0)", Twins.mixed().copy(i, 0), 1);
      Due.equal("copy(0, " + i + ")", Twins.mixed().copy(0, i), i % 64 == 0 ? 1 : 0);
    }
    Due.equal("copy(0, -1)", Twins.mixed().copy(0, -1), 0);
  }

  private interface Argument {
    ToLongFunction<RefHeap> call(int wrong);
  }

  private static void bad(String call, int[] wrongs, Argument argument) {
    for (int wrong : wrongs) {
      Twins.bad(call + ", x = " + wrong, argument.call(wrong));
    }
  }

  private static void state(String call, int[] wrongs, Argument argument) {
    for (int wrong : wrongs) {
      Twins.state(call + ", x = " + wrong, argument.call(wrong));
    }
  }

  private static void making() {
    int[] noFields = {Integer.MIN_VALUE, -1, 21, 22, Integer.MAX_VALUE};
    int[] noLengths = {Integer.MIN_VALUE, -2, -1, 3001, 3002, Integer.MAX_VALUE};
    Due.says("Promise 2, 'BAD: refs, numbers, too'");
    bad("plain(x, 1, 1)", Twins.NO_ROOTS, x -> h -> h.plain(x, 1, 1));
    bad("plain(9, x, 1)", noFields, x -> h -> h.plain(9, x, 1));
    bad("plain(9, 1, x)", noFields, x -> h -> h.plain(9, 1, x));
    Twins.bad("plain(9, MAX, MIN)", h -> h.plain(9, Integer.MAX_VALUE, Integer.MIN_VALUE));
    Twins.bad("plain(9, -1, 1): the sum is none too small", h -> h.plain(9, -1, 1));
    Due.says("Promise 3, 'BAD'");
    bad("row(x, 1, true)", Twins.NO_ROOTS, x -> h -> h.row(x, 1, true));
    bad("row(x, 1, false)", Twins.NO_ROOTS, x -> h -> h.row(x, 1, false));
    bad("row(9, x, true)", noLengths, x -> h -> h.row(9, x, true));
    bad("row(9, x, false)", noLengths, x -> h -> h.row(9, x, false));
    Due.says("Promise 4, 'BAD'");
    bad("queue(x)", Twins.NO_ROOTS, x -> h -> h.queue(x));
  }

  private static void makingLoose() {
    int[] noKinds = {Integer.MIN_VALUE, -1, 3, 4, Integer.MAX_VALUE};
    Due.says("Promise 5, 'BAD: kind, too; IllegalStateException'");
    bad("loose(x, 1, 0, 3)", Twins.NO_ROOTS, x -> h -> h.loose(x, 1, 0, 3));
    bad("loose(9, x, 0, 3)", noKinds, x -> h -> h.loose(9, x, 0, 3));
    bad("loose(9, 1, x, 3)", Twins.NO_ROOTS, x -> h -> h.loose(9, 1, x, 3));
    bad("loose(9, 1, 0, x)", Twins.NO_ROOTS_NOR_NULL, x -> h -> h.loose(9, 1, 0, x));
    state("loose(9, 0, x, 3)", new int[] {9, 13, 65}, x -> h -> h.loose(9, 0, x, 3));
    state("loose(9, 1, x, -1)", new int[] {9, 13, 65}, x -> h -> h.loose(9, 1, x, -1));
    for (int kind = 0; kind < 3; kind++) {
      int k = kind;
      state("loose(9, k, 0, x)", NOT_QUEUES, x -> h -> h.loose(9, k, 0, x));
    }
    Due.says("Promise 5 and term 4, 'looked at first'");
    bad("loose(x, 1, 9, 3)", Twins.NO_ROOTS, x -> h -> h.loose(x, 1, 9, 3));
    bad("loose(9, x, 9, 0)", noKinds, x -> h -> h.loose(9, x, 9, 0));
    bad("loose(9, 1, x, 0)", Twins.NO_ROOTS, x -> h -> h.loose(9, 1, x, 0));
    bad("loose(9, 1, 9, x)", Twins.NO_ROOTS_NOR_NULL, x -> h -> h.loose(9, 1, 9, x));
  }

  private static void makingPairs() {
    Due.says("Promise 6, 'BAD; IllegalStateException'");
    bad("pair(x, 0, 8, 3)", Twins.NO_ROOTS, x -> h -> h.pair(x, 0, 8, 3));
    bad("pair(9, x, 8, 3)", Twins.NO_ROOTS, x -> h -> h.pair(9, x, 8, 3));
    bad("pair(9, 0, x, 3)", Twins.NO_ROOTS_NOR_NULL, x -> h -> h.pair(9, 0, x, 3));
    bad("pair(9, 0, 8, x)", Twins.NO_ROOTS_NOR_NULL, x -> h -> h.pair(9, 0, 8, x));
    state("pair(9, x, 8, 3)", new int[] {9, 13, 65}, x -> h -> h.pair(9, x, 8, 3));
    state("pair(9, x, -1, -1)", new int[] {9, 13, 65}, x -> h -> h.pair(9, x, -1, -1));
    state("pair(9, 0, 8, x)", NOT_QUEUES, x -> h -> h.pair(9, 0, 8, x));
    Due.says("Promise 6 and term 4, 'looked at first'");
    bad("pair(x, 9, 8, 3)", Twins.NO_ROOTS, x -> h -> h.pair(x, 9, 8, 3));
    bad("pair(9, x, 8, 0)", Twins.NO_ROOTS, x -> h -> h.pair(9, x, 8, 0));
    bad("pair(9, 9, x, 3)", Twins.NO_ROOTS_NOR_NULL, x -> h -> h.pair(9, 9, x, 3));
    bad("pair(9, 9, 8, x)", Twins.NO_ROOTS_NOR_NULL, x -> h -> h.pair(9, 9, 8, x));
  }

  private static void copy() {
    Due.says("Promise 7, 'BAD'");
    bad("copy(x, 0)", Twins.NO_ROOTS, x -> h -> h.copy(x, 0));
    bad("copy(x, -1)", Twins.NO_ROOTS, x -> h -> h.copy(x, -1));
    bad("copy(0, x)", Twins.NO_ROOTS_NOR_NULL, x -> h -> h.copy(0, x));
  }

  private static void link() {
    Due.says("Promise 8, 'BAD (k below 0, too)'");
    bad("link(x, 0, 8)", Twins.NO_ROOTS, x -> h -> h.link(x, 0, 8));
    bad("link(0, x, 8)", Twins.NEGATIVES, x -> h -> h.link(0, x, 8));
    bad("link(0, 0, x)", Twins.NO_ROOTS_NOR_NULL, x -> h -> h.link(0, 0, x));
    Due.says("Promise 8 and term 4, 'looked at first'");
    bad("link(9, x, 8)", Twins.NEGATIVES, x -> h -> h.link(9, x, 8));
    bad("link(3, x, 8)", Twins.NEGATIVES, x -> h -> h.link(3, x, 8));
    bad("link(9, 0, x)", Twins.NO_ROOTS_NOR_NULL, x -> h -> h.link(9, 0, x));
    bad("link(0, 2, x)", Twins.NO_ROOTS_NOR_NULL, x -> h -> h.link(0, 2, x));
    Due.says("Promise 8, 'IllegalStateException: also if there is no REF k'");
    state("link(x, 0, 8)", NO_FIELDS, x -> h -> h.link(x, 0, 8));
    state("link(0, x, 8)", new int[] {2, 3, 20, Integer.MAX_VALUE}, x -> h -> h.link(0, x, 8));
    state("link(1, x, -1)", new int[] {3, 4, 3000, Integer.MAX_VALUE}, x -> h -> h.link(1, x, -1));
    state("link(2, x, 8)", new int[] {0, 2, 3}, x -> h -> h.link(2, x, 8));
    state("link(8, x, 8)", new int[] {0, 1}, x -> h -> h.link(8, x, 8));
  }

  private static void fetch() {
    Due.says("Promise 9, 'Thrown as by link'");
    bad("fetch(x, 0, 0)", Twins.NO_ROOTS, x -> h -> h.fetch(x, 0, 0));
    bad("fetch(8, x, 0)", Twins.NO_ROOTS, x -> h -> h.fetch(8, x, 0));
    bad("fetch(8, 0, x)", Twins.NEGATIVES, x -> h -> h.fetch(8, 0, x));
    bad("fetch(x, 9, 0)", Twins.NO_ROOTS, x -> h -> h.fetch(x, 9, 0));
    bad("fetch(x, 0, 2)", Twins.NO_ROOTS, x -> h -> h.fetch(x, 0, 2));
    bad("fetch(8, 9, x)", Twins.NEGATIVES, x -> h -> h.fetch(8, 9, x));
    bad("fetch(8, 3, x)", Twins.NEGATIVES, x -> h -> h.fetch(8, 3, x));
    state("fetch(8, x, 0)", NO_FIELDS, x -> h -> h.fetch(8, x, 0));
    state("fetch(8, 0, x)", new int[] {2, 3, 20, Integer.MAX_VALUE}, x -> h -> h.fetch(8, 0, x));
    state("fetch(8, 1, x)", new int[] {3, 4, 3000, Integer.MAX_VALUE}, x -> h -> h.fetch(8, 1, x));
    state("fetch(8, 2, x)", new int[] {0, 2, 3}, x -> h -> h.fetch(8, 2, x));
    state("fetch(0, 8, x)", new int[] {0, 1}, x -> h -> h.fetch(0, 8, x));
  }

  private static void set() {
    Due.says("Promise 10, 'Thrown as by link'");
    bad("set(x, 0, 3)", Twins.NO_ROOTS, x -> h -> h.set(x, 0, 3));
    bad("set(0, x, 3)", Twins.NEGATIVES, x -> h -> h.set(0, x, 3));
    bad("set(9, x, 3)", Twins.NEGATIVES, x -> h -> h.set(9, x, 3));
    bad("set(1, x, 3)", Twins.NEGATIVES, x -> h -> h.set(1, x, 3));
    state("set(x, 0, 3)", NO_FIELDS, x -> h -> h.set(x, 0, 3));
    state("set(0, x, 3)", new int[] {2, 3, 20, Integer.MAX_VALUE}, x -> h -> h.set(0, x, 3));
    state("set(1, x, 3)", new int[] {0, 2, 3}, x -> h -> h.set(1, x, 3));
    state("set(2, x, 3)", new int[] {3, 4, 3000, Integer.MAX_VALUE}, x -> h -> h.set(2, x, 3));
    state("set(8, x, 3)", new int[] {0, 1}, x -> h -> h.set(8, x, 3));
  }

  private static void get() {
    Due.says("Promise 11, 'Thrown as by link'");
    bad("get(x, 0)", Twins.NO_ROOTS, x -> h -> h.get(x, 0));
    bad("get(0, x)", Twins.NEGATIVES, x -> h -> h.get(0, x));
    bad("get(9, x)", Twins.NEGATIVES, x -> h -> h.get(9, x));
    bad("get(1, x)", Twins.NEGATIVES, x -> h -> h.get(1, x));
    state("get(x, 0)", NO_FIELDS, x -> h -> h.get(x, 0));
    state("get(0, x)", new int[] {2, 3, 20, Integer.MAX_VALUE}, x -> h -> h.get(0, x));
    state("get(1, x)", new int[] {0, 2, 3}, x -> h -> h.get(1, x));
    state("get(2, x)", new int[] {3, 4, 3000, Integer.MAX_VALUE}, x -> h -> h.get(2, x));
    state("get(8, x)", new int[] {0, 1}, x -> h -> h.get(8, x));
  }

  private static void referent() {
    Due.says("Promise 12, 'BAD; IllegalStateException'");
    for (int n = 0; n < 2; n++) {
      boolean value = n == 1;
      bad("referent(x, 7, " + value + ")", Twins.NO_ROOTS, x -> h -> h.referent(x, 7, value));
      bad("referent(8, x, " + value + ")", Twins.NO_ROOTS, x -> h -> h.referent(8, x, value));
      bad("referent(x, 9, " + value + ")", Twins.NO_ROOTS, x -> h -> h.referent(x, 9, value));
    }
    state("referent(8, x, false)", NOT_LOOSE, x -> h -> h.referent(8, x, false));
    state("referent(8, x, true)", NOT_PAIRS, x -> h -> h.referent(8, x, true));
  }

  private static void give() {
    Due.says("Promise 13, 'BAD; IllegalStateException'");
    bad("give(x, 8)", Twins.NO_ROOTS, x -> h -> h.give(x, 8));
    bad("give(7, x)", Twins.NO_ROOTS_NOR_NULL, x -> h -> h.give(7, x));
    bad("give(14, x), which let go", Twins.NO_ROOTS_NOR_NULL, x -> h -> h.give(14, x));
    bad("give(9, x)", Twins.NO_ROOTS_NOR_NULL, x -> h -> h.give(9, x));
    bad("give(4, x)", Twins.NO_ROOTS_NOR_NULL, x -> h -> h.give(4, x));
    state("give(x, 8)", NOT_PAIRS, x -> h -> h.give(x, 8));
    state("give(x, -1)", NOT_PAIRS, x -> h -> h.give(x, -1));
  }

  private static void clear() {
    Due.says("Promise 14, 'BAD; IllegalStateException'");
    bad("clear(x, true)", Twins.NO_ROOTS, x -> h -> h.clear(x, true));
    bad("clear(x, false)", Twins.NO_ROOTS, x -> h -> h.clear(x, false));
    state("clear(x, true)", NOT_LOOSE, x -> h -> h.clear(x, true));
    state("clear(x, false)", NOT_LOOSE, x -> h -> h.clear(x, false));
  }

  private static void poll() {
    Due.says("Promise 15, 'BAD; IllegalStateException'");
    bad("poll(x, 11)", Twins.NO_ROOTS, x -> h -> h.poll(x, 11));
    bad("poll(x, 3), which is empty", Twins.NO_ROOTS, x -> h -> h.poll(x, 3));
    bad("poll(8, x)", Twins.NO_ROOTS, x -> h -> h.poll(8, x));
    bad("poll(x, 9)", Twins.NO_ROOTS, x -> h -> h.poll(x, 9));
    state("poll(8, x)", NOT_QUEUES, x -> h -> h.poll(8, x));
  }

  private static void waiting() {
    Due.says("Promise 16, 'BAD; IllegalStateException'");
    bad("waiting(x)", Twins.NO_ROOTS, x -> h -> h.waiting(x));
    state("waiting(x)", NOT_QUEUES, x -> h -> h.waiting(x));
  }

  private static void kindHashAndDigest() {
    Due.says("Promise 17, 'BAD'");
    bad("kind(x)", Twins.NO_ROOTS, x -> h -> h.kind(x));
    Due.says("Promise 18, 'BAD'");
    bad("hash(x)", Twins.NO_ROOTS, x -> h -> h.hash(x));
    Due.says("Promise 25, 'BAD'");
    bad("digest(x)", Twins.NO_ROOTS, x -> h -> h.digest(x));
  }

  private static void same() {
    Due.says("Promise 19, 'BAD'");
    bad("same(x, 0)", Twins.NO_ROOTS, x -> h -> h.same(x, 0) ? 1 : 0);
    bad("same(0, x)", Twins.NO_ROOTS, x -> h -> h.same(0, x) ? 1 : 0);
    bad("same(x, x)", Twins.NO_ROOTS, x -> h -> h.same(x, x) ? 1 : 0);
  }

  private static void open() {
    int[] noSizes = {Integer.MIN_VALUE, -1, 0, 17, 18, Integer.MAX_VALUE};
    Due.says("Promise 20, 'BAD'");
    bad("open(x)", noSizes, x -> h -> h.open(x));
    Due.says("Promise 20, 'IllegalStateException: there are 20'");
    for (int n = 1; n <= 16; n++) {
      int size = n;
      Twins.refusedOn("open(" + n + ") of a 21st", h -> h.open(size),
          "throws.IllegalStateException", RefusedTest::withTwentyScopes);
    }
    Due.says("Promise 20 and term 4, 'looked at first'");
    for (int wrong : noSizes) {
      Twins.refusedOn("open(" + wrong + ") of a 21st", h -> h.open(wrong),
          "throws.IllegalArgumentException", RefusedTest::withTwentyScopes);
    }
  }

  private static RefHeap withTwentyScopes() {
    RefHeap x = Twins.mixed();
    for (int n = 0; n < 19; n++) {
      x.open(1 + n % 16);
    }
    return x;
  }

  private static void close() {
    Due.says("Promise 21, 'IllegalStateException: there is none'");
    Twins.refusedOn("close() of a new heap", h -> h.close(),
        "throws.IllegalStateException", () -> new RefHeap(600, 64));
    Twins.refusedOn("close() when all are closed", h -> h.close(),
        "throws.IllegalStateException", RefusedTest::withAllClosed);
  }

  private static RefHeap withAllClosed() {
    RefHeap x = Twins.mixed();
    x.close();
    return x;
  }

  private static void every() {
    Due.says("Promise 23, 'IllegalArgumentException: below 0'");
    bad("every(x)", Twins.NEGATIVES, x -> h -> h.every(x));
  }

  private static void count() {
    Due.says("Promise 24, 'IllegalArgumentException for others'");
    int[] noCounts = {Integer.MIN_VALUE, -1, 10, 11, Integer.MAX_VALUE};
    bad("count(x)", noCounts, x -> h -> h.count(x));
  }
}

import java.math.BigInteger;

/** Promises 22 to 25: collections, carrying over, counts and digests, at their edges. */
public final class TellingEdgeTest {
  public static void main(String[] args) {
    collectAnswersCellsFreed();
    collectSoftOrNot();
    everyAnswersN();
    everyIsNotTold();
    countZeroToNine();
    countUsedAndLeft();
    countMadeAndNotMade();
    countCollections();
    countCame();
    countLetGo();
    countTheMost();
    countRoots();
    countHashes();
    countingChangesNothing();
    digestOfNull();
    digestOfEachKind();
    digestOrder();
    digestByRefsAlone();
    digestWrapsAround();
    digestChangesNothing();
    Due.finish();
  }

  private static RefHeap heap() {
    return new RefHeap(9000, 64);
  }

  private static void collectAnswersCellsFreed() {
    Due.says("Promise 22, 'CELLS that were FREED'");
    RefHeap x = heap();
    Due.equal("of nothing", x.collect(false), 0);
    Due.equal("of nothing, softly", x.collect(true), 0);
    int[] lengths = {0, 1, 2999, 3000};
    for (int length : lengths) {
      x.row(0, length, true);
      Due.equal("while it is held", x.collect(false), 0);
      x.copy(0, -1);
      Due.equal("when it is not", x.collect(false), 2 + length);
      Due.equal("once more", x.collect(false), 0);
    }
    x.plain(0, 0, 0);
    x.plain(0, 20, 20);
    x.queue(0);
    Due.equal("of two that are not held", x.collect(true), 44);
    Due.equal("used", x.count(0), 3);
  }

  private static void collectSoftOrNot() {
    Due.says("Promise 22, '(letting go of SOFT ones, or not)'");
    RefHeap x = heap();
    x.plain(0, 0, 0);
    x.loose(1, 0, 0, -1);
    x.copy(0, -1);
    Due.equal("collect(false)", x.collect(false), 0);
    Due.equal("let go", x.count(5), 0);
    Due.equal("collect(true)", x.collect(true), 2);
    Due.equal("let go", x.count(5), 1);
    Due.equal("the soft one's referent", x.referent(0, 1, false), 0);
  }

  private static void everyAnswersN() {
    Due.says("Promise 23, '(0: as the heap likes): n. IllegalArgumentException: below 0'");
    RefHeap x = heap();
    int[] wrong = {-1, -2, Integer.MIN_VALUE};
    for (int n : wrong) {
      Due.bad("every(" + n + ")", () -> x.every(n));
    }
    int[] right = {0, 1, 2, 511, 512, Integer.MAX_VALUE, 0};
    for (int n : right) {
      Due.equal("every(" + n + ")", x.every(n), n);
      Due.equal("plain after it", x.plain(0, 0, 0), 2);
    }
    Due.equal("made", x.count(2), 7);
  }

  private static void everyIsNotTold() {
    Due.says("Promise 23, 'it is not told'");
    int[] everies = {1, 2, 3, 17, Integer.MAX_VALUE};
    String due = story(0, 64);
    for (int n : everies) {
      Due.text("all answers with every(" + n + ")", story(n, 64), due);
      Due.text("all answers with every(" + n + "), more young", story(n, 4000), due);
    }
  }

  /** Weak ones of what is young and old, through collections that the room asks for. */
  private static String story(int every, int young) {
    RefHeap x = new RefHeap(600, young);
    StringBuilder told = new StringBuilder();
    x.queue(0);
    x.every(every);
    for (int n = 0; n < 40; n++) {
      x.plain(1 + n % 4, 2, 9);
      x.set(1 + n % 4, n % 9, n);
      x.link(1 + n % 4, 0, 1 + (n + 1) % 4);
      told.append(x.loose(10 + n % 6, n % 3, 1 + n % 4, 0)).append(' ');
      told.append(x.pair(20 + n % 3, 1 + n % 4, 10, 0)).append(' ');
      told.append(x.digest(1 + n % 4)).append(' ').append(x.hash(10 + n % 6)).append(' ');
      told.append(x.poll(30, 0)).append(' ').append(x.hash(30)).append(' ');
    }
    for (int what = 0; what < 10; what++) {
      told.append(x.count(what)).append(' ');
    }
    return told.toString();
  }

  private static void countZeroToNine() {
    Due.says("Promise 24, 'IllegalArgumentException for others'");
    RefHeap x = heap();
    int[] wrong = {Integer.MIN_VALUE, -2, -1, 10, 11, Integer.MAX_VALUE};
    for (int what : wrong) {
      Due.bad("count(" + what + ")", () -> x.count(what));
    }
    for (int what = 0; what < 10; what++) {
      Due.equal("count(" + what + ")", x.count(what), what == 7 ? 64 : 0);
    }
  }

  private static void countUsedAndLeft() {
    Due.says("Promise 24, '0: USED, 1: OBJECTS that were made and not FREED'");
    RefHeap x = heap();
    for (int n = 1; n <= 20; n++) {
      x.plain(n, n, 0);
      Due.equal("used", x.count(0), 2 * n + n * (n + 1) / 2);
      Due.equal("left", x.count(1), n);
    }
    for (int n = 20; n >= 1; n--) {
      x.copy(n, -1);
      Due.equal("left till the collection", x.count(1), n);
      x.collect(false);
      Due.equal("used", x.count(0), 2 * (n - 1) + n * (n - 1) / 2);
      Due.equal("left", x.count(1), n - 1);
    }
  }

  private static void countMadeAndNotMade() {
    Due.says("Promise 24, '2: OBJECTS made ever, 9: OBJECTS that were not made'");
    RefHeap x = new RefHeap(600, 64);
    x.row(0, 400, false);
    for (int n = 1; n <= 5; n++) {
      x.row(1, 300, true);
      Due.equal("not made", x.count(9), n);
      Due.equal("made", x.count(2), n);
      x.row(1, 100, true);
      Due.equal("made", x.count(2), n + 1);
      x.copy(1, -1);
      Due.bad("a wrong call", () -> x.row(1, 3001, true));
      Due.state("a call on null", () -> x.loose(1, 0, 9, -1));
      Due.equal("not made, but for what was thrown", x.count(9), n);
    }
  }

  private static void countCollections() {
    Due.says("Promise 24, '3: WHOLE COLLECTIONS'");
    RefHeap x = new RefHeap(600, 64);
    for (int n = 1; n <= 4; n++) {
      x.collect(n % 2 == 0);
      Due.equal("by collect", x.count(3), n);
    }
    x.row(0, 598, true);
    Due.equal("for what fits", x.count(3), 4);
    x.row(1, 0, true);
    Due.equal("for what does not", x.count(3), 6);
    x.copy(0, -1);
    x.row(1, 0, true);
    Due.equal("for what fits after the first", x.count(3), 7);
  }

  private static void countCame() {
    Due.says("Promise 24, '4: how often a LOOSE one came to a QUEUE'");
    RefHeap x = heap();
    x.plain(0, 0, 0);
    x.queue(1);
    for (int i = 2; i < 6; i++) {
      x.loose(i, 1, 0, i < 5 ? 1 : -1);
    }
    Due.equal("at first", x.count(4), 0);
    x.clear(2, true);
    Due.equal("by clear", x.count(4), 1);
    x.clear(2, true);
    x.clear(3, false);
    Due.equal("by clear again, and untold", x.count(4), 1);
    x.copy(0, -1);
    x.collect(false);
    Due.equal("by a collection, one with a queue and one without", x.count(4), 2);
    x.poll(9, 1);
    x.poll(9, 1);
    Due.equal("when they have left", x.count(4), 2);
    x.copy(1, -1);
    x.collect(false);
    Due.equal("when the queue is gone", x.count(4), 2);
  }

  private static void countLetGo() {
    Due.says("Promise 24, '5: how often one let go in a COLLECTION'");
    RefHeap x = heap();
    x.plain(0, 0, 0);
    x.queue(1);
    x.loose(2, 0, 0, 1);
    x.loose(3, 1, 0, -1);
    x.loose(4, 2, 0, 1);
    x.pair(5, 0, 1, -1);
    x.loose(6, 1, 0, 1);
    x.clear(6, true);
    Due.equal("by clear", x.count(5), 0);
    x.copy(0, -1);
    x.collect(false);
    Due.equal("while it is held softly", x.count(5), 0);
    x.collect(true);
    Due.equal("with a queue and without", x.count(5), 4);
    x.collect(true);
    Due.equal("once each", x.count(5), 4);
  }

  private static void countTheMost() {
    Due.says("Promise 24, '6: the most that USED ever was'");
    RefHeap x = new RefHeap(600, 64);
    x.row(0, 298, true);
    Due.equal("as it rises", x.count(6), 300);
    x.copy(0, -1);
    x.collect(false);
    Due.equal("when it falls", x.count(6), 300);
    x.row(0, 297, true);
    Due.equal("one below", x.count(6), 300);
    x.collect(false);
    x.copy(0, -1);
    x.collect(false);
    x.row(0, 298, true);
    Due.equal("the same", x.count(6), 300);
    x.copy(0, -1);
    x.collect(false);
    x.row(0, 299, true);
    Due.equal("one above", x.count(6), 301);
    x.row(1, 598, true);
    Due.equal("by what is not made", x.count(6), 301);
    x.row(1, 297, true);
    Due.equal("the whole room", x.count(6), 600);
    x.copy(1, -1);
    x.row(1, 10, true);
    Due.equal("by what is made after a collection", x.count(6), 600);
  }

  private static void countRoots() {
    Due.says("Promise 24, '7: ROOTS that there are'");
    RefHeap x = heap();
    int roots = 64;
    for (int n = 0; n < 20; n++) {
      x.open(16 - n % 16);
      roots += 16 - n % 16;
      Due.equal("with a scope more", x.count(7), roots);
      x.queue(roots - 1);
      Due.equal("whatever they are", x.count(7), roots);
    }
    for (int n = 19; n >= 0; n--) {
      x.close();
      roots -= 16 - n % 16;
      Due.equal("with a scope less", x.count(7), roots);
    }
  }

  private static void countHashes() {
    Due.says("Promise 24, '8: HASHES given'");
    RefHeap x = heap();
    x.queue(0);
    x.copy(1, 0);
    x.queue(2);
    Due.equal("at first", x.count(8), 0);
    x.hash(0);
    x.hash(0);
    x.hash(1);
    x.hash(5);
    Due.equal("one object, asked three times, and null", x.count(8), 1);
    x.hash(2);
    Due.equal("two objects", x.count(8), 2);
    x.copy(0, -1);
    x.copy(1, -1);
    x.collect(true);
    Due.equal("when one is freed", x.count(8), 2);
  }

  private static void countingChangesNothing() {
    Due.says("Promises 16 to 19, 24 and 25, which only tell");
    RefHeap asked = Twins.mixed();
    for (int what = 0; what < 10; what++) {
      asked.count(what);
    }
    for (int i = 0; i < 16; i++) {
      asked.kind(i);
      asked.same(i, 15 - i);
      asked.digest(i);
    }
    asked.waiting(3);
    asked.waiting(11);
    asked.get(0, 1);
    Due.text("all that is told after asking", Twins.story(asked), Twins.story(Twins.mixed()));
  }

  private static void digestOfNull() {
    Due.says("Promise 25, 'Of null 7'");
    RefHeap x = heap();
    Due.equal("digest(0)", x.digest(0), 7);
    Due.equal("digest(63)", x.digest(63), 7);
    Due.bad("digest(64)", () -> x.digest(64));
    Due.bad("digest(-1)", () -> x.digest(-1));
    x.open(1);
    Due.equal("digest(64) in a scope", x.digest(64), 7);
    Due.bad("digest(65)", () -> x.digest(65));
  }

  /** The document's sum with no wrap-around but the one at the end. */
  private static long mixed(long... parts) {
    BigInteger h = BigInteger.valueOf(7);
    for (long part : parts) {
      h = h.multiply(BigInteger.valueOf(31)).add(BigInteger.valueOf(part));
    }
    return h.longValue();
  }

  private static void digestOfEachKind() {
    Due.says("Promise 25, 'its kind; how many REFS it has; ..; how many NUMBERS; each of these'");
    RefHeap x = heap();
    x.plain(0, 0, 0);
    Due.equal("plain without fields", x.digest(0), mixed(0, 0, 0));
    x.plain(0, 1, 0);
    Due.equal("plain with a ref", x.digest(0), mixed(0, 1, 0, 0));
    x.plain(0, 0, 1);
    Due.equal("plain with a number", x.digest(0), mixed(0, 0, 1, 0));
    x.row(0, 0, true);
    Due.equal("no refs", x.digest(0), mixed(1, 0, 0));
    x.row(0, 2, true);
    Due.equal("two refs", x.digest(0), mixed(1, 2, 0, 0, 0));
    x.row(0, 0, false);
    Due.equal("no numbers", x.digest(0), mixed(2, 0, 0));
    x.row(0, 2, false);
    x.set(0, 0, -1);
    x.set(0, 1, Long.MAX_VALUE);
    Due.equal("two numbers", x.digest(0), mixed(2, 0, 2, -1, Long.MAX_VALUE));
    x.queue(1);
    Due.equal("queue", x.digest(1), mixed(3, 0, 0));
    for (int kind = 0; kind < 3; kind++) {
      x.loose(2, kind, 0, 1);
      Due.equal("loose", x.digest(2), mixed(4 + kind, 0, 0));
    }
    x.pair(2, 0, 0, 1);
    Due.equal("pair", x.digest(2), mixed(7, 0, 0));
  }

  /** 0 has (1, null, 2), 1 has (3, 0), 2 has (4, 3): the order is 0, 1, 2, 3, 4. */
  private static void digestOrder() {
    Due.says("Promise 25, 'in the order in which it is first come to'");
    RefHeap x = heap();
    x.plain(0, 3, 1);
    x.row(1, 2, true);
    x.plain(2, 2, 0);
    x.queue(3);
    x.row(4, 1, false);
    x.set(0, 0, 50);
    x.set(4, 0, 60);
    x.link(0, 0, 1);
    x.link(0, 2, 2);
    x.link(1, 0, 3);
    x.link(1, 1, 0);
    x.link(2, 0, 4);
    x.link(2, 1, 3);
    Due.equal("from 0", x.digest(0),
        mixed(0, 3, 2, 0, 3, 1, 50, 1, 2, 4, 1, 0, 0, 2, 5, 4, 0, 3, 0, 0, 2, 0, 1, 60));
    Due.equal("from 1: 1, 3, 0, 2, 4", x.digest(1),
        mixed(1, 2, 2, 3, 0, 3, 0, 0, 0, 3, 1, 0, 4, 1, 50, 0, 2, 5, 2, 0, 2, 0, 1, 60));
    Due.equal("from 2: 2, 4, 3", x.digest(2), mixed(0, 2, 2, 3, 0, 2, 0, 1, 60, 3, 0, 0));
    x.plain(5, 3, 0);
    x.link(5, 0, 5);
    x.link(5, 2, 5);
    Due.equal("itself twice", x.digest(5), mixed(0, 3, 1, 0, 1, 0));
  }

  private static void digestByRefsAlone() {
    Due.says("Promise 25, 'Of what is REACHED from ROOT i by REFS alone'");
    RefHeap x = heap();
    x.plain(0, 1, 1);
    x.queue(1);
    x.plain(2, 2, 0);
    for (int kind = 0; kind < 4; kind++) {
      long made = kind == 3 ? x.pair(3, 0, 2, 1) : x.loose(3, kind, 0, 1);
      Due.equal("made", made, kind == 3 ? 5 : 4);
      x.link(2, 0, 3);
      Due.equal("no referent", x.digest(2), mixed(0, 2, 2, 0, 0, 4 + kind, 0, 0));
      x.clear(3, true);
      x.link(2, 1, 1);
      Due.equal("none in a queue", x.digest(2), mixed(0, 2, 2, 3, 0, 4 + kind, 0, 0, 3, 0, 0));
      x.link(2, 1, -1);
    }
  }

  private static void digestWrapsAround() {
    Due.says("Promise 25, 'h = 31 * h + each', 64 bits");
    RefHeap x = heap();
    x.row(0, 3000, false);
    long[] parts = new long[3003];
    parts[0] = 2;
    parts[2] = 3000;
    for (int n = 0; n < 50; n++) {
      int k = n * 61 % 3000;
      long value = (Long.MAX_VALUE - n * 1234567L) * (n % 2 == 0 ? 1 : -1);
      x.set(0, k, value);
      parts[3 + k] = value;
    }
    Due.equal("3000 numbers", x.digest(0), mixed(parts));
    x.row(1, 3000, true);
    long[] refs = new long[3003 + 3];
    refs[0] = 1;
    refs[1] = 3000;
    x.queue(2);
    x.link(1, 2999, 2);
    refs[2 + 2999] = 2;
    refs[3003] = 3;
    Due.equal("3000 refs, the last one set", x.digest(1), mixed(refs));
  }

  private static void digestChangesNothing() {
    Due.says("Promise 25, the same digest whatever is moved");
    RefHeap x = Twins.mixed();
    long[] before = new long[16];
    for (int i = 0; i < 16; i++) {
      before[i] = x.digest(i);
    }
    x.every(1);
    x.collect(false);
    x.plain(40, 20, 20);
    x.collect(true);
    for (int i = 15; i >= 0; i--) {
      Due.equal("digest(" + i + ")", x.digest(i), before[i]);
    }
  }
}

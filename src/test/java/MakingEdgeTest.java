/** Promises 1 to 6: a sentence at a time, with the values at, before and behind each edge. */
public final class MakingEdgeTest {
  public static void main(String[] args) {
    roomCountsAsTheNearest();
    youngCountsAsTheNearest();
    nothingIsMadeAtFirst();
    heapsAreApart();
    plainAnswersItsCells();
    rowAnswersItsCells();
    queueAnswersItsCells();
    looseKinds();
    looseOfAnyKind();
    looseWithAQueueOrNone();
    pairWithAValueOrNull();
    pairWithAQueueOrNone();
    rootStaysIfNotMade();
    whatIsMeantIsWhatItIsAtTheCall();
    whatTheRootWasCountsTillItIsMade();
    Due.finish();
  }

  private static void roomCountsAsTheNearest() {
    Due.says("Promise 1, 'ROOM (600 to 30000); others count as the nearest'");
    int[] rooms = {
      Integer.MIN_VALUE, -600, -1, 0, 599, 600, 601, 29999, 30000, 30001, Integer.MAX_VALUE
    };
    int[] due = {600, 600, 600, 600, 600, 600, 601, 29999, 30000, 30000, 30000};
    for (int n = 0; n < rooms.length; n++) {
      holdsExactly(rooms[n], due[n]);
    }
  }

  private static void holdsExactly(int room, int due) {
    RefHeap x = new RefHeap(room, 64);
    int i = 0;
    for (int left = due; left > 500; left -= 500) {
      Due.equal("a row in room " + room, x.row(i, 498, false), 500);
      i++;
    }
    int left = due - x.count(0);
    RefHeap y = new RefHeap(room, 64);
    for (int n = 0; n < i; n++) {
      y.row(n, 498, false);
    }
    Due.equal("one cell too many in room " + room, y.row(i, left - 1, false), 0);
    Due.equal("collections for it", y.count(3), 2);
    Due.equal("the last cell of room " + room, x.row(i, left - 2, false), left);
    Due.equal("used then", x.count(0), due);
    Due.equal("collections till then", x.count(3), 0);
  }

  private static void youngCountsAsTheNearest() {
    Due.says("Promise 1, 'YOUNG (64 to 4000 ..: not told); others count as the nearest'");
    int[] youngs = {
      Integer.MIN_VALUE, -1, 0, 1, 63, 64, 65, 3999, 4000, 4001, Integer.MAX_VALUE
    };
    String due = makingStory(new RefHeap(700, 1000));
    for (int young : youngs) {
      Due.text("all answers with young " + young, makingStory(new RefHeap(700, young)), due);
    }
  }

  private static String makingStory(RefHeap x) {
    StringBuilder told = new StringBuilder();
    x.queue(0);
    for (int n = 0; n < 40; n++) {
      told.append(x.row(1, 50 + n, n % 2 == 0)).append(' ');
      told.append(x.loose(2 + n % 5, n % 3, 1, 0)).append(' ');
      told.append(x.pair(7, 1, 2, 0)).append(' ');
      told.append(x.hash(1)).append(' ').append(x.waiting(0)).append(' ');
    }
    for (int what = 0; what < 10; what++) {
      told.append(x.count(what)).append(' ');
    }
    return told.toString();
  }

  private static void nothingIsMadeAtFirst() {
    Due.says("Promise 1, 'Nothing is made, all ROOTS are null'");
    RefHeap x = new RefHeap(600, 64);
    for (int what = 0; what < 10; what++) {
      Due.equal("count(" + what + ")", x.count(what), what == 7 ? 64 : 0);
    }
    for (int i = 0; i < 64; i++) {
      Due.equal("kind(" + i + ")", x.kind(i), -1);
    }
    Due.bad("kind(64)", () -> x.kind(64));
    Due.equal("collect of nothing", x.collect(true), 0);
  }

  private static void heapsAreApart() {
    Due.says("Promise 1, 'Nothing is made' in a new heap, whatever is in another");
    RefHeap x = new RefHeap(600, 64);
    x.queue(0);
    x.hash(0);
    x.open(3);
    RefHeap y = new RefHeap(600, 64);
    Due.equal("objects of the new one", y.count(2), 0);
    Due.equal("roots of the new one", y.count(7), 64);
    y.plain(0, 0, 0);
    Due.equal("first hash of the new one", y.hash(0), 1);
    y.copy(0, -1);
    Due.equal("freed in the new one", y.collect(true), 2);
    Due.equal("the first one's root stays", x.kind(0), 3);
    Due.equal("collections of the first one", x.count(3), 0);
  }

  private static void plainAnswersItsCells() {
    Due.says("Promise 2, 'ROOT i becomes a new PLAIN OBJECT: its CELLS'");
    RefHeap x = new RefHeap(600, 64);
    int[] sizes = {0, 1, 19, 20};
    for (int refs : sizes) {
      for (int numbers : sizes) {
        x.copy(1, 0);
        Due.equal("plain(0, ..)", x.plain(0, refs, numbers), 2 + refs + numbers);
        Due.equal("kind(0)", x.kind(0), 0);
        Due.holds("it is a new one", !x.same(0, 1));
      }
    }
    Due.equal("plain(63, 0, 0)", x.plain(63, 0, 0), 2);
    Due.bad("plain(64, 0, 0)", () -> x.plain(64, 0, 0));
    x.open(1);
    Due.equal("plain(64, 0, 0) in a scope", x.plain(64, 0, 0), 2);
    Due.bad("plain(65, 0, 0)", () -> x.plain(65, 0, 0));
  }

  private static void rowAnswersItsCells() {
    Due.says("Promise 3, 'Likewise a ROW of REFS or NUMBERS'");
    RefHeap x = new RefHeap(30000, 64);
    int[] lengths = {0, 1, 2999, 3000};
    for (int length : lengths) {
      Due.equal("row(0, " + length + ", true)", x.row(0, length, true), 2 + length);
      Due.equal("its kind", x.kind(0), 1);
      Due.equal("row(1, " + length + ", false)", x.row(1, length, false), 2 + length);
      Due.equal("its kind", x.kind(1), 2);
    }
    Due.equal("row(63, 0, true)", x.row(63, 0, true), 2);
    Due.bad("row(64, 0, true)", () -> x.row(64, 0, true));
  }

  private static void queueAnswersItsCells() {
    Due.says("Promise 4, 'Likewise a QUEUE'");
    RefHeap x = new RefHeap(600, 64);
    int[] edges = {0, 1, 62, 63};
    for (int i : edges) {
      Due.equal("queue(" + i + ")", x.queue(i), 3);
      Due.equal("its kind", x.kind(i), 3);
      Due.equal("waiting in a new one", x.waiting(i), 0);
    }
    x.plain(1, 0, 0);
    x.loose(2, 1, 1, 0);
    x.clear(2, true);
    x.queue(0);
    Due.equal("waiting in a new one in an old one's root", x.waiting(0), 0);
  }

  private static void looseKinds() {
    Due.says("Promise 5, 'kind 0 SOFT, 1 WEAK, 2 PHANTOM'");
    RefHeap x = new RefHeap(600, 64);
    x.plain(0, 0, 0);
    for (int kind = -2; kind <= 4; kind++) {
      int k = kind;
      if (kind < 0 || kind > 2) {
        Due.bad("loose(1, " + kind + ", 0, -1)", () -> x.loose(1, k, 0, -1));
        continue;
      }
      Due.equal("loose(1, " + kind + ", 0, -1)", x.loose(1, kind, 0, -1), 4);
      Due.equal("its kind", x.kind(1), 4 + kind);
    }
    Due.equal("made in all", x.count(2), 4);
  }

  private static void looseOfAnyKind() {
    Due.says("Promise 5, 'of ROOT of (not null)'");
    RefHeap x = Twins.mixed();
    for (int of = 0; of < 16; of++) {
      int i = of;
      if (x.kind(of) == -1) {
        Due.state("loose of root " + of + ", which is null", () -> x.loose(20, 1, i, 3));
        Due.state("pair of root " + of + ", which is null", () -> x.pair(20, i, -1, 3));
        continue;
      }
      Due.equal("loose of root " + of, x.loose(20, 1, of, 3), 4);
      x.referent(21, 20, false);
      Due.holds("its referent is what that root is", x.same(21, of));
      Due.equal("pair of root " + of, x.pair(20, of, -1, 3), 5);
      x.referent(21, 20, false);
      Due.holds("the pair's referent is what that root is", x.same(21, of));
    }
  }

  private static void looseWithAQueueOrNone() {
    Due.says("Promise 5, 'with the QUEUE that ROOT q is (-1: none)'");
    for (int kind = 0; kind < 3; kind++) {
      int k = kind;
      RefHeap x = new RefHeap(600, 64);
      x.plain(0, 0, 0);
      x.queue(63);
      Due.bad("q -2", () -> x.loose(1, k, 0, -2));
      Due.equal("q -1", x.loose(1, kind, 0, -1), 4);
      Due.equal("clear of one without a queue", x.clear(1, true), 0);
      Due.state("q 0, no queue", () -> x.loose(1, k, 0, 0));
      Due.state("q 62, null", () -> x.loose(1, k, 0, 62));
      Due.equal("q 63", x.loose(1, kind, 0, 63), 4);
      Due.equal("clear of one with a queue", x.clear(1, true), 1);
      Due.equal("it is in that queue", x.waiting(63), 1);
      Due.bad("q 64", () -> x.loose(1, k, 0, 64));
    }
  }

  private static void pairWithAValueOrNull() {
    Due.says("Promise 6, 'with the VALUE that ROOT v is (-1: null)'");
    RefHeap x = new RefHeap(600, 64);
    x.plain(0, 0, 0);
    x.queue(63);
    Due.bad("v -2", () -> x.pair(1, 0, -2, -1));
    Due.equal("v -1", x.pair(1, 0, -1, -1), 5);
    Due.equal("value then", x.referent(2, 1, true), 0);
    Due.equal("v 0, the referent", x.pair(1, 0, 0, -1), 5);
    Due.equal("value then", x.referent(2, 1, true), 1);
    Due.holds("it is root 0", x.same(2, 0));
    Due.equal("v 62, null", x.pair(1, 0, 62, -1), 5);
    Due.equal("value then", x.referent(2, 1, true), 0);
    Due.equal("v 63", x.pair(1, 0, 63, -1), 5);
    Due.equal("value then", x.referent(2, 1, true), 1);
    Due.holds("it is root 63", x.same(2, 63));
    Due.bad("v 64", () -> x.pair(1, 0, 64, -1));
    Due.equal("kind", x.kind(1), 7);
  }

  private static void pairWithAQueueOrNone() {
    Due.says("Promise 6, 'Likewise' with the QUEUE that ROOT q is (-1: none)");
    RefHeap x = new RefHeap(600, 64);
    x.plain(0, 0, 0);
    x.queue(63);
    Due.bad("q -2", () -> x.pair(1, 0, 0, -2));
    Due.equal("q -1", x.pair(1, 0, 0, -1), 5);
    Due.equal("clear of one without a queue", x.clear(1, true), 0);
    Due.state("q 0, no queue", () -> x.pair(1, 0, 0, 0));
    Due.state("q 62, null", () -> x.pair(1, 0, 0, 62));
    Due.equal("q 63", x.pair(1, 0, 0, 63), 5);
    Due.equal("clear of one with a queue", x.clear(1, true), 1);
    Due.equal("it is in that queue", x.waiting(63), 1);
    Due.bad("q 64", () -> x.pair(1, 0, 0, 64));
  }

  /** A full heap; root 0 is of every kind in turn, and each making call is tried on it. */
  private static void rootStaysIfNotMade() {
    Due.says("Promises 2 to 6, '0 if it is not made (ROOT i stays)'");
    for (int root = 0; root < 10; root++) {
      RefHeap x = Twins.mixed();
      x.row(30, 600 - x.count(0) - 2, false);
      int kind = x.kind(root);
      int hash = x.hash(root);
      long digest = x.digest(root);
      int used = x.count(0) - 3;
      Due.equal("plain", x.plain(root, 20, 0), 0);
      Due.equal("row", x.row(root, 3000, true), 0);
      Due.equal("row of numbers", x.row(root, 100, false), 0);
      Due.equal("kind of root " + root, x.kind(root), kind);
      Due.equal("hash of root " + root, x.hash(root), hash);
      Due.equal("digest of root " + root, x.digest(root), digest);
      Due.equal("not made", x.count(9), 3);
      Due.equal("used, but for what a soft one alone held", x.count(0), used);
    }
    looseStays();
  }

  private static void looseStays() {
    RefHeap x = new RefHeap(600, 64);
    x.queue(0);
    x.row(1, 594, false);
    Due.equal("used", x.count(0), 599);
    Due.equal("queue", x.queue(1), 0);
    for (int kind = 0; kind < 3; kind++) {
      Due.equal("loose", x.loose(1, kind, 1, 0), 0);
    }
    Due.equal("pair", x.pair(1, 1, 1, 0), 0);
    Due.equal("plain", x.plain(1, 0, 0), 0);
    Due.equal("row", x.row(1, 0, true), 0);
    Due.equal("kind of root 1", x.kind(1), 2);
    Due.equal("not made", x.count(9), 7);
    Due.equal("made", x.count(2), 2);
    Due.equal("collections", x.count(3), 14);
  }

  /** Root i is that of the referent, the value or the queue, and a collection comes between. */
  private static void whatIsMeantIsWhatItIsAtTheCall() {
    Due.says("Promise 5, 'What of and q are at the call is meant, also if a collection comes'");
    for (int kind = 0; kind < 4; kind++) {
      for (int i = 1; i <= 3; i++) {
        RefHeap x = heapForACollection();
        long cells = kind == 3 ? x.pair(i, 1, 3, 2) : x.loose(i, kind, 1, 2);
        Due.equal("made in root " + i, cells, kind == 3 ? 5 : 4);
        Due.equal("collections", x.count(3), 1);
        Due.equal("let go", x.count(5), 0);
        if (kind != 2) {
          Due.equal("its referent", x.referent(4, i, false), 1);
          Due.equal("is what root 1 was", x.hash(4), 1);
        }
        if (kind == 3) {
          Due.equal("its value", x.referent(4, i, true), 1);
          Due.equal("is what root 3 was", x.hash(4), 3);
        }
        x.copy(4, -1);
        x.copy(5, i);
        Due.equal("it comes to its queue", x.clear(5, true), 1);
        Due.equal("how often one came", x.count(4), 1);
      }
    }
  }

  private static RefHeap heapForACollection() {
    RefHeap x = new RefHeap(600, 64);
    x.plain(1, 0, 1);
    x.queue(2);
    x.plain(3, 1, 0);
    x.hash(1);
    x.hash(2);
    x.hash(3);
    x.row(9, 600 - x.count(0) - 2, false);
    x.copy(9, -1);
    return x;
  }

  private static void whatTheRootWasCountsTillItIsMade() {
    Due.says("Term 2 and promise 2, 'ROOT i becomes' only when it is made");
    for (int length = 298; length <= 299; length++) {
      RefHeap x = new RefHeap(600, 64);
      x.row(0, 298, false);
      Due.equal("row in the root of 300 cells", x.row(0, length, true), length == 298 ? 300 : 0);
      Due.equal("collections", x.count(3), length == 298 ? 0 : 2);
      Due.equal("kind", x.kind(0), length == 298 ? 1 : 2);
    }
  }
}

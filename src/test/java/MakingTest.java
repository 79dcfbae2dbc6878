/** Promises 1 to 6, and the room that making takes (term 2). */
public final class MakingTest {
  public static void main(String[] args) {
    newHeap();
    limitsOfRoom();
    plain();
    row();
    queue();
    loose();
    pair();
    collectsForRoom();
    letsGoOfSoftForRoom();
    rootStaysWhenNotMade();
    oldRootCountsWhileMaking();
    referentAndQueueOutliveTheCollection();
    Due.finish();
  }

  private static void newHeap() {
    RefHeap x = new RefHeap(1000, 100);
    for (int i = 0; i < 64; i++) {
      Due.equal("kind of a new heap's root", x.kind(i), -1);
    }
    Due.bad("kind(64)", () -> x.kind(64));
    for (int what = 0; what < 10; what++) {
      Due.equal("count(" + what + ") of a new heap", x.count(what), what == 7 ? 64 : 0);
    }
  }

  private static void limitsOfRoom() {
    fillsExactly(new RefHeap(600, 64), 600);
    fillsExactly(new RefHeap(599, 64), 600);
    fillsExactly(new RefHeap(Integer.MIN_VALUE, Integer.MIN_VALUE), 600);
    fillsExactly(new RefHeap(601, 0), 601);
    fillsExactly(new RefHeap(29999, 4001), 29999);
    fillsExactly(new RefHeap(30000, 4000), 30000);
    fillsExactly(new RefHeap(30001, 4000), 30000);
    fillsExactly(new RefHeap(Integer.MAX_VALUE, Integer.MAX_VALUE), 30000);
  }

  private static void fillsExactly(RefHeap x, int room) {
    int left = room;
    int i = 0;
    while (left > 0) {
      int cells = Math.min(left, left > 3002 && left < 3004 ? 3000 : 3002);
      Due.equal("row that still fits", x.row(i, cells - 2, false), cells);
      left -= cells;
      i++;
    }
    Due.equal("used when full", x.count(0), room);
    Due.equal("collections till full", x.count(3), 0);
    Due.equal("plain when full", x.plain(63, 0, 0), 0);
    Due.equal("collections when full", x.count(3), 2);
    Due.equal("not made when full", x.count(9), 1);
  }

  private static void plain() {
    RefHeap x = new RefHeap(1000, 100);
    Due.equal("plain(0, 0, 0)", x.plain(0, 0, 0), 2);
    Due.equal("plain(63, 20, 20)", x.plain(63, 20, 20), 42);
    Due.equal("plain(1, 3, 4)", x.plain(1, 3, 4), 9);
    Due.equal("kind(1)", x.kind(1), 0);
    Due.equal("fetch of a ref at first", x.fetch(2, 1, 2), 0);
    Due.equal("get of a number at first", x.get(1, 3), 0);
    Due.state("ref beyond the last", () -> x.fetch(2, 1, 3));
    Due.state("number beyond the last", () -> x.get(1, 4));
    Due.bad("plain(-1, 0, 0)", () -> x.plain(-1, 0, 0));
    Due.bad("plain(64, 0, 0)", () -> x.plain(64, 0, 0));
    Due.bad("plain(0, -1, 0)", () -> x.plain(0, -1, 0));
    Due.bad("plain(0, 21, 0)", () -> x.plain(0, 21, 0));
    Due.bad("plain(0, 0, -1)", () -> x.plain(0, 0, -1));
    Due.bad("plain(0, 0, 21)", () -> x.plain(0, 0, 21));
    Due.equal("made after wrong calls", x.count(2), 3);
    Due.equal("not made after wrong calls", x.count(9), 0);
  }

  private static void row() {
    RefHeap x = new RefHeap(10000, 100);
    Due.equal("row(0, 0, true)", x.row(0, 0, true), 2);
    Due.equal("kind(0)", x.kind(0), 1);
    Due.equal("row(1, 3000, false)", x.row(1, 3000, false), 3002);
    Due.equal("kind(1)", x.kind(1), 2);
    Due.equal("row(2, 3000, true)", x.row(2, 3000, true), 3002);
    Due.equal("last ref", x.fetch(3, 2, 2999), 0);
    Due.equal("last number", x.get(1, 2999), 0);
    Due.state("ref of an empty row", () -> x.fetch(3, 0, 0));
    Due.state("ref of numbers", () -> x.fetch(3, 1, 0));
    Due.state("number of refs", () -> x.get(2, 0));
    Due.bad("row(-1, 0, true)", () -> x.row(-1, 0, true));
    Due.bad("row(64, 0, true)", () -> x.row(64, 0, true));
    Due.bad("row(0, -1, true)", () -> x.row(0, -1, true));
    Due.bad("row(0, 3001, false)", () -> x.row(0, 3001, false));
    RefHeap small = new RefHeap(600, 64);
    Due.equal("row that never fits", small.row(0, 3000, true), 0);
    Due.equal("collections for it", small.count(3), 2);
  }

  private static void queue() {
    RefHeap x = new RefHeap(600, 64);
    Due.equal("queue(5)", x.queue(5), 3);
    Due.equal("kind(5)", x.kind(5), 3);
    Due.equal("waiting(5)", x.waiting(5), 0);
    Due.bad("queue(-1)", () -> x.queue(-1));
    Due.bad("queue(64)", () -> x.queue(64));
  }

  private static void loose() {
    RefHeap x = new RefHeap(600, 64);
    x.plain(0, 0, 0);
    x.queue(1);
    for (int kind = 0; kind < 3; kind++) {
      Due.equal("loose without a queue", x.loose(2, kind, 0, -1), 4);
      Due.equal("loose with a queue", x.loose(2, kind, 0, 1), 4);
      Due.equal("kind(2)", x.kind(2), 4 + kind);
    }
    Due.equal("loose of a queue, to itself", x.loose(1, 1, 1, 1), 4);
    Due.bad("root -1", () -> x.loose(-1, 0, 0, -1));
    Due.bad("root 64", () -> x.loose(64, 0, 0, -1));
    Due.bad("kind -1", () -> x.loose(2, -1, 0, -1));
    Due.bad("kind 3", () -> x.loose(2, 3, 0, -1));
    Due.bad("of -1", () -> x.loose(2, 0, -1, -1));
    Due.bad("of 64", () -> x.loose(2, 0, 64, -1));
    Due.bad("queue -2", () -> x.loose(2, 0, 0, -2));
    Due.bad("queue 64, and of null", () -> x.loose(2, 0, 9, 64));
    Due.bad("kind 3, and of null", () -> x.loose(2, 3, 9, -1));
    Due.state("of null", () -> x.loose(2, 0, 9, -1));
    Due.state("queue null", () -> x.loose(2, 0, 0, 9));
    Due.state("queue plain", () -> x.loose(2, 0, 0, 0));
    Due.equal("made", x.count(2), 9);
  }

  private static void pair() {
    RefHeap x = new RefHeap(600, 64);
    x.plain(0, 0, 0);
    x.queue(1);
    Due.equal("pair of null, no queue", x.pair(2, 0, -1, -1), 5);
    Due.equal("kind(2)", x.kind(2), 7);
    Due.equal("value of null", x.referent(3, 2, true), 0);
    Due.equal("pair with all", x.pair(2, 0, 1, 1), 5);
    Due.equal("value", x.referent(3, 2, true), 1);
    Due.holds("the value is the queue", x.same(3, 1));
    Due.equal("pair whose value's root is null", x.pair(2, 0, 9, -1), 5);
    Due.equal("value of a null root", x.referent(3, 2, true), 0);
    Due.bad("root -1", () -> x.pair(-1, 0, 0, -1));
    Due.bad("root 64", () -> x.pair(64, 0, 0, -1));
    Due.bad("of -1", () -> x.pair(2, -1, 0, -1));
    Due.bad("of 64", () -> x.pair(2, 64, 0, -1));
    Due.bad("value -2", () -> x.pair(2, 0, -2, -1));
    Due.bad("value 64, and of null", () -> x.pair(2, 9, 64, -1));
    Due.bad("queue -2", () -> x.pair(2, 0, 0, -2));
    Due.bad("queue 64", () -> x.pair(2, 0, 0, 64));
    Due.state("of null", () -> x.pair(2, 9, 0, -1));
    Due.state("queue null", () -> x.pair(2, 0, 0, 9));
    Due.state("queue plain", () -> x.pair(2, 0, 0, 0));
    Due.equal("made", x.count(2), 5);
  }

  private static void collectsForRoom() {
    RefHeap x = new RefHeap(600, 64);
    x.row(0, 498, false);
    x.copy(0, -1);
    Due.equal("row that fills the room", x.row(0, 98, false), 100);
    Due.equal("no collection yet", x.count(3), 0);
    Due.equal("queue beyond the room", x.queue(1), 3);
    Due.equal("one collection", x.count(3), 1);
    Due.equal("used", x.count(0), 103);
    Due.equal("the most used", x.count(6), 600);
  }

  private static void letsGoOfSoftForRoom() {
    RefHeap x = new RefHeap(600, 64);
    x.queue(0);
    x.row(1, 498, false);
    x.loose(2, 0, 1, 0);
    x.copy(1, -1);
    Due.equal("row that needs the soft one's room", x.row(3, 200, true), 202);
    Due.equal("two collections", x.count(3), 2);
    Due.equal("one let go", x.count(5), 1);
    Due.equal("it came", x.waiting(0), 1);
    Due.equal("used", x.count(0), 209);
  }

  private static void rootStaysWhenNotMade() {
    RefHeap x = new RefHeap(600, 64);
    x.row(0, 597, false);
    x.hash(0);
    Due.equal("plain", x.plain(0, 0, 0), 0);
    Due.equal("row", x.row(0, 0, true), 0);
    Due.equal("queue", x.queue(0), 0);
    Due.equal("loose", x.loose(0, 1, 0, -1), 0);
    Due.equal("pair", x.pair(0, 0, 0, -1), 0);
    Due.equal("the root stays", x.kind(0), 2);
    Due.equal("so does its hash", x.hash(0), 1);
    Due.equal("not made", x.count(9), 5);
    Due.equal("made", x.count(2), 1);
    Due.equal("collections", x.count(3), 10);
  }

  private static void oldRootCountsWhileMaking() {
    RefHeap x = new RefHeap(600, 64);
    x.row(0, 298, false);
    x.row(1, 198, false);
    Due.equal("a row in the place of one still held", x.row(0, 298, false), 0);
    Due.equal("not made", x.count(9), 1);
  }

  private static void referentAndQueueOutliveTheCollection() {
    RefHeap x = new RefHeap(600, 64);
    x.queue(0);
    x.plain(1, 0, 1);
    x.set(1, 0, 77);
    x.row(2, 589, false);
    x.copy(2, -1);
    Due.equal("loose in its referent's place", x.loose(1, 1, 1, 0), 4);
    Due.equal("a collection came before", x.count(3), 1);
    Due.equal("nothing let go", x.count(5), 0);
    Due.equal("the referent is there", x.referent(3, 1, false), 1);
    Due.equal("and is what it was", x.get(3, 0), 77);
    x.copy(3, -1);
    x.collect(false);
    Due.equal("the queue is there", x.waiting(0), 1);
  }
}

/** Promises 12 to 16: referents, values and queues, as the caller works them. */
public final class LooseTest {
  public static void main(String[] args) {
    referent();
    give();
    clear();
    clearThenCollect();
    poll();
    waiting();
    Due.finish();
  }

  /** Roots: 0 plain, 1 queue, 2 soft, 3 weak, 4 phantom, 5 pair; all of 0, all to 1. */
  private static RefHeap heapOfLoose() {
    RefHeap x = new RefHeap(600, 64);
    x.plain(0, 1, 1);
    x.queue(1);
    x.loose(2, 0, 0, 1);
    x.loose(3, 1, 0, 1);
    x.loose(4, 2, 0, 1);
    x.pair(5, 0, 1, 1);
    return x;
  }

  private static void referent() {
    RefHeap x = heapOfLoose();
    for (int j = 2; j < 6; j++) {
      x.copy(9, 1);
      Due.equal("referent(9, " + j + ")", x.referent(9, j, false), j == 4 ? 0 : 1);
      Due.holds("what root 9 is then", x.same(9, j == 4 ? 20 : 0));
    }
    Due.equal("referent(9, 5, true)", x.referent(9, 5, true), 1);
    Due.holds("root 9 is the value", x.same(9, 1));
    for (int j = 0; j < 5; j++) {
      int root = j;
      Due.state("value of what is no pair", () -> x.referent(9, root, true));
    }
    Due.state("referent of a plain one", () -> x.referent(9, 0, false));
    Due.state("referent of a queue", () -> x.referent(9, 1, false));
    Due.state("referent of null", () -> x.referent(9, 20, false));
    Due.state("value of null", () -> x.referent(9, 20, true));
    Due.bad("referent(-1, 2)", () -> x.referent(-1, 2, false));
    Due.bad("referent(64, 20): ahead of what 20 is", () -> x.referent(64, 20, false));
    Due.bad("referent(9, -1)", () -> x.referent(9, -1, false));
    Due.bad("referent(9, 64)", () -> x.referent(9, 64, true));
    Due.holds("root 9 after all that was thrown", x.same(9, 1));
  }

  private static void give() {
    RefHeap x = heapOfLoose();
    Due.equal("give(5, 0)", x.give(5, 0), 1);
    x.referent(9, 5, true);
    Due.holds("the value given", x.same(9, 0));
    Due.equal("give(5, 20)", x.give(5, 20), 1);
    Due.equal("value of a null root", x.referent(9, 5, true), 0);
    Due.equal("give(5, 5)", x.give(5, 5), 1);
    Due.equal("give(5, -1)", x.give(5, -1), 1);
    Due.equal("value null", x.referent(9, 5, true), 0);
    x.clear(5, false);
    Due.equal("give when let go", x.give(5, 0), 0);
    Due.equal("no value then", x.referent(9, 5, true), 0);
    Due.state("give to a weak one", () -> x.give(3, 0));
    Due.state("give to a plain one", () -> x.give(0, 0));
    Due.state("give to null", () -> x.give(20, 0));
    Due.bad("give(-1, 0)", () -> x.give(-1, 0));
    Due.bad("give(64, 0)", () -> x.give(64, 0));
    Due.bad("give(5, -2)", () -> x.give(5, -2));
    Due.bad("give(20, 64): ahead of what 20 is", () -> x.give(20, 64));
  }

  private static void clear() {
    RefHeap x = heapOfLoose();
    Due.equal("clear(3, false)", x.clear(3, false), 0);
    Due.equal("referent when let go", x.referent(9, 3, false), 0);
    Due.equal("not told", x.waiting(1), 0);
    Due.equal("clear(3, true) when let go, never told", x.clear(3, true), 1);
    Due.equal("told", x.waiting(1), 1);
    Due.equal("clear(3, true) again", x.clear(3, true), 0);
    Due.equal("clear(5, true)", x.clear(5, true), 1);
    Due.equal("value when let go", x.referent(9, 5, true), 0);
    Due.equal("poll", x.poll(9, 1), 1);
    Due.holds("in the order of coming", x.same(9, 3));
    Due.equal("clear(3, true) after it left the queue", x.clear(3, true), 0);
    x.loose(6, 0, 0, -1);
    Due.equal("clear without a queue", x.clear(6, true), 0);
    Due.equal("referent when let go", x.referent(9, 6, false), 0);
    Due.equal("how often one came", x.count(4), 2);
    Due.equal("let go in a collection", x.count(5), 0);
    Due.state("clear(0)", () -> x.clear(0, true));
    Due.state("clear(1)", () -> x.clear(1, true));
    Due.state("clear(20)", () -> x.clear(20, false));
    Due.bad("clear(-1)", () -> x.clear(-1, true));
    Due.bad("clear(64)", () -> x.clear(64, false));
  }

  private static void clearThenCollect() {
    RefHeap x = heapOfLoose();
    x.clear(3, false);
    x.clear(2, true);
    x.copy(0, -1);
    Due.equal("freed", x.collect(false), 4);
    Due.equal("phantom and pair alone let go", x.count(5), 2);
    Due.equal("three are told of", x.waiting(1), 3);
    x.poll(9, 1);
    Due.holds("the cleared one first", x.same(9, 2));
    x.poll(9, 1);
    Due.holds("then the phantom", x.same(9, 4));
  }

  private static void poll() {
    RefHeap x = heapOfLoose();
    x.copy(9, 0);
    Due.equal("poll of an empty queue", x.poll(9, 1), 0);
    Due.equal("the root is null then", x.kind(9), -1);
    x.clear(4, true);
    x.clear(2, true);
    Due.equal("first", x.poll(9, 1), 1);
    Due.holds("first come", x.same(9, 4));
    x.clear(5, true);
    Due.equal("second", x.poll(9, 1), 1);
    Due.holds("second come", x.same(9, 2));
    Due.equal("third", x.poll(9, 1), 1);
    Due.holds("third come", x.same(9, 5));
    x.clear(3, true);
    Due.equal("into the queue's own root", x.poll(1, 1), 1);
    Due.holds("fourth come", x.same(1, 3));
    Due.state("poll of a plain one", () -> x.poll(9, 0));
    Due.state("poll of null", () -> x.poll(9, 20));
    Due.bad("poll(-1, 1)", () -> x.poll(-1, 1));
    Due.bad("poll(64, 20): ahead of what 20 is", () -> x.poll(64, 20));
    Due.bad("poll(9, -1)", () -> x.poll(9, -1));
    Due.bad("poll(9, 64)", () -> x.poll(9, 64));
    Due.holds("root 9 after all that was thrown", x.same(9, 5));
  }

  private static void waiting() {
    RefHeap x = heapOfLoose();
    for (int i = 2; i < 6; i++) {
      Due.equal("waiting(1)", x.waiting(1), i - 2);
      x.clear(i, true);
    }
    x.poll(9, 1);
    Due.equal("waiting(1) after poll", x.waiting(1), 3);
    Due.state("waiting(0)", () -> x.waiting(0));
    Due.state("waiting(2)", () -> x.waiting(2));
    Due.state("waiting(20)", () -> x.waiting(20));
    Due.bad("waiting(-1)", () -> x.waiting(-1));
    Due.bad("waiting(64)", () -> x.waiting(64));
  }
}

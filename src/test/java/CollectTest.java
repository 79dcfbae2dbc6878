/** Promise 22, with term 3: what is reached, what lets go and in which order, what is freed. */
public final class CollectTest {
  public static void main(String[] args) {
    freesWhatNoRootLeadsTo();
    softKeepsUnlessLetGoOf();
    weakAndPhantomKeepNothing();
    queueIsKeptTillComeTo();
    queueKeepsWhatIsInIt();
    pairKeepsValueByItsReferent();
    pairKeepsNothingByItsOwnValue();
    chainOfPairs();
    letsGoInTheOrderOfRanks();
    freedLooseComesToNoQueue();
    decidedAheadOfLettingGo();
    letsGoOnce();
    Due.finish();
  }

  private static void freesWhatNoRootLeadsTo() {
    RefHeap x = new RefHeap(2000, 64);
    Due.equal("nothing there", x.collect(false), 0);
    x.plain(0, 1, 0);
    x.row(1, 5, true);
    x.row(2, 10, false);
    x.link(0, 0, 1);
    x.link(1, 4, 0);
    x.link(1, 2, 2);
    x.copy(1, -1);
    x.copy(2, -1);
    Due.equal("all is reached", x.collect(true), 0);
    x.copy(0, -1);
    Due.equal("a ring is freed", x.collect(false), 3 + 7 + 12);
    Due.equal("used", x.count(0), 0);
    Due.equal("left", x.count(1), 0);
    Due.equal("made ever", x.count(2), 3);
    Due.equal("collections", x.count(3), 3);
  }

  private static void softKeepsUnlessLetGoOf() {
    RefHeap x = new RefHeap(600, 64);
    x.plain(0, 1, 0);
    x.plain(1, 0, 0);
    x.link(0, 0, 1);
    x.loose(2, 0, 0, -1);
    x.copy(0, -1);
    x.copy(1, -1);
    Due.equal("kept softly, with what it leads to", x.collect(false), 0);
    Due.equal("referent", x.referent(0, 2, false), 1);
    Due.equal("kept by a root", x.collect(true), 0);
    Due.equal("nothing let go", x.count(5), 0);
    x.copy(0, -1);
    Due.equal("let go of", x.collect(true), 5);
    Due.equal("one let go", x.count(5), 1);
    Due.equal("referent let go", x.referent(0, 2, false), 0);
    Due.equal("no queue told", x.count(4), 0);
  }

  private static void weakAndPhantomKeepNothing() {
    RefHeap x = new RefHeap(600, 64);
    x.queue(0);
    x.plain(1, 0, 0);
    x.loose(2, 1, 1, 0);
    x.loose(3, 2, 1, 0);
    x.copy(1, -1);
    Due.equal("freed", x.collect(false), 2);
    Due.equal("both told", x.waiting(0), 2);
    Due.equal("weak lets go", x.referent(1, 2, false), 0);
    Due.equal("count(4)", x.count(4), 2);
    Due.equal("count(5)", x.count(5), 2);
  }

  private static void queueIsKeptTillComeTo() {
    RefHeap x = new RefHeap(600, 64);
    x.queue(0);
    x.plain(1, 0, 0);
    x.loose(2, 1, 1, 0);
    x.copy(0, -1);
    Due.equal("its loose one keeps the queue", x.collect(false), 0);
    x.clear(2, false);
    Due.equal("also one that let go untold", x.collect(false), 0);
    Due.equal("it comes", x.clear(2, true), 1);
    Due.equal("it keeps the queue no more", x.collect(false), 3);
    Due.equal("count(4)", x.count(4), 1);
    Due.equal("it is kept by its root", x.kind(2), 5);
  }

  private static void queueKeepsWhatIsInIt() {
    RefHeap x = new RefHeap(600, 64);
    x.queue(0);
    x.plain(1, 0, 0);
    x.loose(2, 1, 1, 0);
    x.pair(3, 1, 2, 0);
    x.clear(2, true);
    x.clear(3, true);
    x.copy(2, -1);
    x.copy(3, -1);
    Due.equal("both are in the queue", x.collect(true), 0);
    x.poll(9, 0);
    x.copy(9, -1);
    Due.equal("the first has left it", x.collect(true), 4);
    Due.equal("the second is in it", x.waiting(0), 1);
    x.copy(0, -1);
    Due.equal("queue and all", x.collect(true), 8);
  }

  private static void pairKeepsValueByItsReferent() {
    RefHeap x = new RefHeap(600, 64);
    x.plain(0, 0, 0);
    x.plain(1, 1, 0);
    x.pair(2, 0, 1, -1);
    x.plain(3, 0, 0);
    x.link(1, 0, 3);
    x.copy(1, -1);
    x.copy(3, -1);
    Due.equal("the value is kept, with what it leads to", x.collect(true), 0);
    x.copy(4, 2);
    x.copy(2, -1);
    x.copy(4, -1);
    Due.equal("not without the pair", x.collect(false), 5 + 3 + 2);
    Due.equal("a freed pair let go of nothing", x.count(5), 0);
  }

  private static void pairKeepsNothingByItsOwnValue() {
    RefHeap x = new RefHeap(600, 64);
    x.queue(0);
    x.plain(1, 0, 0);
    x.plain(2, 1, 0);
    x.link(2, 0, 1);
    x.pair(3, 1, 2, 0);
    x.copy(1, -1);
    x.copy(2, -1);
    Due.equal("value leading to its referent", x.collect(false), 5);
    Due.equal("let go", x.count(5), 1);
    Due.equal("told", x.waiting(0), 1);
    Due.equal("value let go", x.referent(1, 3, true), 0);
    Due.equal("referent let go", x.referent(1, 3, false), 0);
  }

  /** Pair n has what pair n - 1's value is as its referent; made so that late ones come first. */
  private static void chainOfPairs() {
    RefHeap x = new RefHeap(2000, 64);
    for (int i = 0; i < 20; i++) {
      x.plain(20 + i, 0, 1);
      x.set(20 + i, 0, i);
    }
    for (int i = 0; i < 19; i++) {
      x.pair(i, 38 - i, 39 - i, -1);
    }
    for (int i = 1; i < 20; i++) {
      x.copy(20 + i, -1);
    }
    Due.equal("each value keeps the next", x.collect(false), 0);
    Due.equal("nothing let go", x.count(5), 0);
    Due.equal("the last value", x.referent(50, 0, true), 1);
    Due.equal("is what it was", x.get(50, 0), 19);
    x.copy(50, -1);
    x.copy(20, -1);
    Due.equal("all values go with the first key", x.collect(false), 20 * 3);
    Due.equal("all let go", x.count(5), 19);
  }

  private static void letsGoInTheOrderOfRanks() {
    RefHeap x = new RefHeap(600, 64);
    x.every(1);
    x.queue(0);
    x.plain(1, 0, 0);
    int[] order = {9, 3, 12, 5, 7, 2, 11};
    for (int n = 0; n < order.length; n++) {
      if (n == 3) {
        x.collect(false);
        x.every(0);
      }
      if (n % 4 == 3) {
        x.pair(order[n], 1, -1, 0);
      } else {
        x.loose(order[n], n % 4, 1, 0);
      }
    }
    x.copy(1, -1);
    Due.equal("freed", x.collect(true), 2);
    for (int i : order) {
      Due.equal("poll", x.poll(20, 0), 1);
      Due.holds("rank of what root " + i + " is", x.same(20, i));
    }
  }

  private static void freedLooseComesToNoQueue() {
    RefHeap x = new RefHeap(600, 64);
    x.queue(0);
    x.plain(1, 0, 0);
    x.loose(2, 1, 1, 0);
    x.copy(1, -1);
    x.copy(2, -1);
    Due.equal("referent and loose one", x.collect(false), 6);
    Due.equal("none came", x.waiting(0), 0);
    Due.equal("count(4)", x.count(4), 0);
    Due.equal("count(5)", x.count(5), 0);
  }

  /** A weak one of a loose one that comes to a kept queue: that one is reached by its root. */
  private static void decidedAheadOfLettingGo() {
    RefHeap x = new RefHeap(600, 64);
    x.queue(0);
    x.plain(1, 0, 0);
    x.loose(2, 1, 1, 0);
    x.loose(3, 1, 2, 0);
    x.copy(1, -1);
    x.copy(4, 2);
    x.copy(2, -1);
    Due.equal("the referent of the first alone", x.collect(false), 2);
    Due.equal("the first came", x.waiting(0), 1);
    x.copy(4, -1);
    Due.equal("it is kept in the queue", x.collect(false), 0);
    x.poll(5, 0);
    x.copy(5, -1);
    Due.equal("it is freed when it has left", x.collect(false), 4);
    Due.equal("the second came", x.waiting(0), 1);
    x.poll(5, 0);
    Due.holds("the second", x.same(5, 3));
  }

  private static void letsGoOnce() {
    RefHeap x = new RefHeap(600, 64);
    x.queue(0);
    x.plain(1, 0, 0);
    x.loose(2, 1, 1, 0);
    x.copy(1, -1);
    x.collect(false);
    x.collect(false);
    Due.equal("it came once", x.waiting(0), 1);
    Due.equal("it let go once", x.count(5), 1);
    Due.equal("collections", x.count(3), 2);
  }
}

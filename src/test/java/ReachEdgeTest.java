/** Term 3, clause by clause: what is reached, what lets go, and what is freed. */
public final class ReachEdgeTest {
  public static void main(String[] args) {
    whatARootIs();
    whatARefIs();
    referentsOfSoftOnes();
    softOnesThatAreLetGoOf();
    queueOfOneThatNeverCame();
    queueOfOneThatComesNow();
    whatIsInAQueue();
    valueOfAPair();
    valueThatAloneLeadsToTheReferent();
    pairsOfOneReferent();
    pairIsReachedAnewInEachCollection();
    pairsInAnyOrder();
    allClausesTogether();
    weakAndPhantomReachNothing();
    reachedOnesLetGo();
    oneWithoutReferentLetsGoOfNothing();
    noneComesTwice();
    orderOfRanks();
    decidedAheadOfAllLettingGo();
    freedOnesComeToNoQueue();
    freedAltogether();
    Due.finish();
  }

  private static RefHeap heap() {
    return new RefHeap(9000, 64);
  }

  private static void whatARootIs() {
    Due.says("Term 3, 'REACHED is what a ROOT is'");
    RefHeap x = heap();
    for (int n = 0; n < 20; n++) {
      x.open(16);
    }
    int[] edges = {0, 1, 62, 63, 64, 65, 79, 80, 382, 383};
    for (int i : edges) {
      x.queue(i);
    }
    Due.equal("freed while all are roots", x.collect(true), 0);
    for (int i : edges) {
      x.copy(i, -1);
      Due.equal("freed without root " + i, x.collect(true), 3);
    }
    x.queue(383);
    x.queue(367);
    x.close();
    Due.equal("freed when the last scope is closed", x.collect(true), 3);
    Due.equal("the root ahead of it", x.kind(367), 3);
  }

  private static void whatARefIs() {
    Due.says("Term 3, 'what a REF of a REACHED one is'");
    int[] lengths = {1, 20, 3000};
    for (int length : lengths) {
      RefHeap x = heap();
      if (length <= 20) {
        x.plain(0, length, 20);
      } else {
        x.row(0, length, true);
      }
      x.queue(1);
      x.link(0, 0, 1);
      x.queue(1);
      x.link(0, length - 1, 1);
      x.copy(1, -1);
      Due.equal("freed beside refs 0 and last", x.collect(true), length == 1 ? 3 : 0);
      x.link(0, length - 1, -1);
      Due.equal("freed without the last ref", x.collect(true), 3);
      x.link(0, 0, -1);
      Due.equal("freed without ref 0", x.collect(true), length == 1 ? 0 : 3);
    }
    ofAChain();
  }

  private static void ofAChain() {
    RefHeap x = heap();
    for (int n = 0; n < 150; n++) {
      x.plain(n % 2, 1, 0);
      x.link(n % 2, 0, 1 - n % 2);
    }
    x.copy(0, -1);
    Due.equal("freed of a chain held at its head", x.collect(true), 0);
    x.link(1, 0, -1);
    Due.equal("freed behind the head", x.collect(true), 149 * 3);
  }

  private static void referentsOfSoftOnes() {
    Due.says("Term 3, 'a REACHED SOFT one's REFERENT'");
    RefHeap x = heap();
    x.plain(0, 1, 0);
    x.queue(1);
    x.link(0, 0, 1);
    x.loose(2, 0, 0, -1);
    x.loose(3, 0, 2, -1);
    x.loose(4, 1, 0, -1);
    dropAllBut(x, 5, 3, 4);
    Due.equal("freed of what a soft one of a soft one leads to", x.collect(false), 0);
    Due.equal("let go", x.count(5), 0);
    x.copy(3, -1);
    Due.equal("freed without a soft one that is reached", x.collect(false), 4 + 4 + 3 + 3);
    Due.equal("let go by the weak one", x.count(5), 1);
  }

  private static void softOnesThatAreLetGoOf() {
    Due.says("Term 3, '.. but if SOFT ones are let go of'");
    RefHeap x = heap();
    x.queue(9);
    x.plain(0, 0, 0);
    x.loose(1, 0, 0, 9);
    x.loose(2, 0, 1, 9);
    Due.equal("freed while the referents are roots", x.collect(true), 0);
    Due.equal("let go while they are", x.count(5), 0);
    dropAllBut(x, 5, 2, -1);
    Due.equal("freed when they are not", x.collect(true), 2 + 4);
    Due.equal("the reached soft one let go, the freed one not", x.count(5), 1);
    Due.equal("came", x.waiting(9), 1);
    Due.equal("its referent", x.referent(3, 2, false), 0);
  }

  private static void queueOfOneThatNeverCame() {
    Due.says("Term 3, 'the QUEUE of a REACHED LOOSE one that never came to it'");
    for (int kind = 0; kind < 4; kind++) {
      RefHeap x = heap();
      x.plain(0, 0, 0);
      x.queue(1);
      make(x, 2, kind, 0, 1);
      x.copy(1, -1);
      Due.equal("freed beside a loose one of kind " + kind, x.collect(true), 0);
      x.clear(2, false);
      Due.equal("freed when it let go and did not come", x.collect(true), 0);
      Due.equal("it comes", x.clear(2, true), 1);
      Due.equal("freed when it came", x.collect(true), 3);
    }
    for (int kind = 0; kind < 4; kind++) {
      RefHeap x = heap();
      x.plain(0, 0, 0);
      x.queue(1);
      make(x, 2, kind, 0, 1);
      x.copy(1, -1);
      x.copy(2, -1);
      Due.equal("freed with one that is not reached", x.collect(true), kind == 3 ? 8 : 7);
    }
  }

  private static void queueOfOneThatComesNow() {
    Due.says("Term 3, 'the QUEUE of a REACHED LOOSE one that never came' as it lets go");
    for (int kind = 0; kind < 4; kind++) {
      RefHeap x = heap();
      x.plain(0, 0, 0);
      x.queue(1);
      make(x, 2, kind, 0, 1);
      x.copy(0, -1);
      x.copy(1, -1);
      Due.equal("freed by the collection that it lets go in", x.collect(true), 2);
      Due.equal("it came", x.count(4), 1);
      Due.equal("freed by the next", x.collect(true), 3);
      Due.equal("the loose one stays", x.kind(2), 4 + kind);
      Due.equal("it comes no more", x.clear(2, true), 0);
    }
  }

  private static void whatIsInAQueue() {
    Due.says("Term 3, 'what is in a REACHED QUEUE'");
    RefHeap x = heap();
    x.plain(0, 0, 0);
    x.queue(1);
    int[] cells = {4, 4, 4, 5};
    for (int kind = 0; kind < 4; kind++) {
      make(x, 2, kind, 0, 1);
      x.clear(2, true);
    }
    x.copy(2, -1);
    for (int kind = 0; kind < 4; kind++) {
      Due.equal("freed of what is in it", x.collect(true), 0);
      Due.equal("how many are in it", x.waiting(1), 4 - kind);
      x.poll(2, 1);
      Due.equal("the first one's kind", x.kind(2), 4 + kind);
      x.copy(2, -1);
      Due.equal("freed when it has left", x.collect(true), cells[kind]);
    }
    make(x, 2, 1, 0, 1);
    x.clear(2, true);
    x.copy(2, -1);
    x.copy(1, -1);
    Due.equal("freed with the queue", x.collect(true), 3 + 4);
  }

  private static void valueOfAPair() {
    Due.says("Term 3, 'the VALUE of a REACHED PAIR of which the REFERENT is REACHED'");
    for (int held = 0; held < 4; held++) {
      RefHeap x = heap();
      x.plain(0, 0, 0);
      x.plain(1, 1, 0);
      x.queue(2);
      x.link(1, 0, 2);
      x.pair(3, 0, 1, -1);
      x.copy(1, -1);
      x.copy(2, -1);
      boolean pair = (held & 1) != 0;
      boolean key = (held & 2) != 0;
      if (!pair) {
        x.copy(3, -1);
      }
      if (!key) {
        x.copy(0, -1);
      }
      int freed = (pair ? 0 : 5) + (key ? 0 : 2) + (pair && key ? 0 : 6);
      Due.equal("freed, pair held " + pair + ", referent held " + key, x.collect(false), freed);
      Due.equal("let go", x.count(5), pair && !key ? 1 : 0);
    }
  }

  private static void valueThatAloneLeadsToTheReferent() {
    Due.says("Term 3, 'the VALUE of a REACHED PAIR of which the REFERENT is REACHED' by others");
    RefHeap own = heap();
    own.plain(0, 0, 0);
    own.pair(1, 0, 0, -1);
    own.copy(0, -1);
    Due.equal("freed: the value is the referent", own.collect(false), 2);
    RefHeap ring = heap();
    ring.plain(0, 0, 0);
    ring.plain(1, 0, 0);
    ring.pair(2, 0, 1, -1);
    ring.pair(3, 1, 0, -1);
    ring.copy(0, -1);
    ring.copy(1, -1);
    Due.equal("freed: two pairs' values are their referents", ring.collect(false), 4);
    Due.equal("both let go", ring.count(5), 2);
    RefHeap self = heap();
    self.plain(0, 1, 0);
    self.queue(1);
    self.pair(2, 0, 1, -1);
    self.link(0, 0, 2);
    self.pair(3, 2, 1, -1);
    self.copy(1, -1);
    self.copy(2, -1);
    Due.equal("freed: the referent is a pair that the referent leads to", self.collect(false), 0);
  }

  /** A heap whose root 20 has a ref, which is held by that alone: root 1 may be null. */
  private static RefHeap heapWithReferentByARef() {
    RefHeap x = heap();
    x.plain(20, 1, 0);
    x.plain(1, 0, 0);
    x.link(20, 0, 1);
    return x;
  }

  private static void pairsOfOneReferent() {
    Due.says("Term 3, 'the VALUE of a REACHED PAIR of which the REFERENT is REACHED', for each");
    for (int pairs = 1; pairs <= 4; pairs++) {
      for (int ahead = 0; ahead <= pairs; ahead++) {
        RefHeap x = heapWithReferentByARef();
        for (int n = 0; n < pairs; n++) {
          x.plain(40, 0, n);
          x.pair(n < ahead ? 10 + n : 30 + n, 1, 40, -1);
        }
        x.copy(1, -1);
        x.copy(40, -1);
        Due.equal("freed while the referent is held", x.collect(false), 0);
        x.link(20, 0, -1);
        int values = 2 * pairs + pairs * (pairs - 1) / 2;
        Due.equal("freed when it is not", x.collect(false), 2 + values);
        Due.equal("let go", x.count(5), pairs);
      }
    }
  }

  /** Pairs in roots 10 and 30, ahead of what leads to their referent and behind it. */
  private static void pairIsReachedAnewInEachCollection() {
    Due.says("Term 3, 'the VALUE of a REACHED PAIR', REACHED in this collection");
    RefHeap x = heapWithReferentByARef();
    for (int i = 10; i <= 30; i += 20) {
      x.plain(3, 0, i / 10);
      x.pair(i, 1, 3, -1);
    }
    x.copy(1, -1);
    x.copy(3, -1);
    Due.equal("freed while both pairs are held", x.collect(false), 0);
    x.copy(10, -1);
    Due.equal("freed with the first pair: its value", x.collect(false), 5 + 3);
    x.copy(30, -1);
    Due.equal("freed with the second pair: its value", x.collect(false), 5 + 5);
    Due.equal("none let go", x.count(5), 0);
  }

  /** Pairs 0 to 3: key 20 leads by value to 21, that to 22 .. made in each order of four. */
  private static void pairsInAnyOrder() {
    Due.says("Term 3, '(by all this together, till nothing more is)' for PAIRS");
    for (int code = 0; code < 256; code++) {
      int[] order = {code & 3, code >> 2 & 3, code >> 4 & 3, code >> 6};
      if (((1 << order[0]) | (1 << order[1]) | (1 << order[2]) | (1 << order[3])) == 15) {
        pairsInOrder(order);
      }
    }
  }

  private static void pairsInOrder(int[] order) {
    RefHeap x = heap();
    for (int n = 0; n < 5; n++) {
      x.plain(20 + n, 0, 0);
    }
    for (int place = 0; place < 4; place++) {
      x.pair(place, 20 + order[place], 21 + order[place], -1);
    }
    for (int n = 1; n < 5; n++) {
      x.copy(20 + n, -1);
    }
    Due.equal("freed while the first key is held", x.collect(false), 0);
    x.copy(20, -1);
    Due.equal("freed when it is not", x.collect(false), 10);
    Due.equal("let go", x.count(5), 4);
  }

  /** Root 0 -> soft -> pair's referent; value -> weak -> queue -> one in it. */
  private static void allClausesTogether() {
    Due.says("Term 3, '(by all this together, till nothing more is)'");
    for (int n = 0; n < 2; n++) {
      RefHeap x = heap();
      x.plain(1, 0, 0);
      x.loose(2, 0, 1, -1);
      x.plain(0, 1, 0);
      x.link(0, 0, 2);
      x.plain(3, 1, 0);
      x.pair(4, 1, 3, -1);
      x.queue(5);
      x.loose(6, 1, 0, 5);
      x.link(3, 0, 6);
      x.loose(7, 2, 0, 5);
      x.clear(7, true);
      dropAllBut(x, 8, 0, 4);
      boolean soft = n == 1;
      Due.equal("freed, soft " + soft, x.collect(soft), soft ? 2 + 3 + 3 + 4 + 4 : 0);
      Due.equal("let go, soft " + soft, x.count(5), soft ? 2 : 0);
    }
  }

  private static void weakAndPhantomReachNothing() {
    Due.says("Term 3, 'A PHANTOM's and a WEAK one's REFERENT is not REACHED by them'");
    for (int kind = 1; kind < 3; kind++) {
      RefHeap x = heap();
      x.plain(0, 0, 0);
      x.queue(1);
      x.loose(2, kind, 0, 1);
      Due.equal("freed while the referent is held", x.collect(true), 0);
      Due.equal("let go while it is held", x.count(5), 0);
      x.copy(0, -1);
      Due.equal("freed when it is not", x.collect(false), 2);
      Due.equal("let go", x.count(5), 1);
      Due.equal("came", x.waiting(1), 1);
      Due.equal("its referent", x.referent(3, 2, false), 0);
    }
  }

  private static void reachedOnesLetGo() {
    Due.says("Term 3, 'each REACHED LOOSE one whose REFERENT is not null and not REACHED lets go'");
    for (int kind = 0; kind < 4; kind++) {
      RefHeap x = heap();
      x.plain(0, 0, 0);
      x.plain(1, 1, 0);
      make(x, 2, kind, 0, -1);
      x.link(1, 0, 2);
      x.copy(0, -1);
      x.copy(2, -1);
      Due.equal("freed, held by a ref alone", x.collect(true), 2);
      Due.equal("let go without a queue", x.count(5), 1);
      Due.equal("none came", x.count(4), 0);
      x.fetch(2, 1, 0);
      Due.equal("kind of what let go", x.kind(2), 4 + kind);
      Due.equal("its referent", x.referent(3, 2, false), 0);
    }
    Due.says("Term 3, 'its REFERENT (and VALUE) become null'");
    RefHeap x = heap();
    x.plain(0, 0, 0);
    x.queue(1);
    x.pair(2, 0, 1, -1);
    x.copy(0, -1);
    x.collect(false);
    Due.equal("the referent", x.referent(3, 2, false), 0);
    Due.equal("the value, which is held by a root", x.referent(3, 2, true), 0);
    Due.equal("give then", x.give(2, 1), 0);
  }

  private static void oneWithoutReferentLetsGoOfNothing() {
    Due.says("Term 3, 'whose REFERENT is not null'");
    for (int kind = 0; kind < 4; kind++) {
      RefHeap x = heap();
      x.plain(0, 0, 0);
      x.queue(1);
      make(x, 2, kind, 0, 1);
      x.clear(2, false);
      x.copy(0, -1);
      Due.equal("freed", x.collect(true), 2);
      Due.equal("let go in the collection", x.count(5), 0);
      Due.equal("came", x.waiting(1), 0);
    }
  }

  private static void noneComesTwice() {
    Due.says("Term 3, 'it comes to the end of its QUEUE, if it has one and never came to it'");
    RefHeap x = heap();
    x.plain(0, 0, 0);
    x.queue(1);
    x.loose(2, 1, 0, 1);
    x.copy(0, -1);
    x.collect(false);
    Due.equal("came by the collection", x.waiting(1), 1);
    x.collect(false);
    Due.equal("came by the next", x.waiting(1), 1);
    Due.equal("came when told", x.clear(2, true), 0);
    x.poll(3, 1);
    x.collect(true);
    Due.equal("came after it has left", x.waiting(1), 0);
    Due.equal("came when told after it has left", x.clear(2, true), 0);
    Due.equal("how often it came", x.count(4), 1);
    Due.equal("how often it let go", x.count(5), 1);
  }

  /** Two collections: the later ones come behind those that wait already, whatever their rank. */
  private static void orderOfRanks() {
    Due.says("Term 3, 'in the order of their ranks .. comes to the end of its QUEUE'");
    RefHeap x = heap();
    x.every(2);
    x.plain(0, 0, 0);
    x.plain(1, 0, 0);
    x.queue(2);
    x.queue(3);
    for (int n = 0; n < 8; n++) {
      make(x, 19 - n, n % 4, n % 2, n < 6 ? 2 : 3);
    }
    x.copy(1, -1);
    x.collect(true);
    Due.equal("came to the first queue", x.waiting(2), 3);
    Due.equal("came to the second queue", x.waiting(3), 1);
    x.copy(0, -1);
    x.collect(true);
    int[] first = {18, 16, 14, 19, 17, 15};
    for (int i : first) {
      x.poll(4, 2);
      Due.holds("root " + i + " is next in the first queue", x.same(4, i));
    }
    int[] second = {12, 13};
    for (int i : second) {
      x.poll(4, 3);
      Due.holds("root " + i + " is next in the second queue", x.same(4, i));
    }
  }

  private static void decidedAheadOfAllLettingGo() {
    Due.says("Term 3, 'What is let go of is decided ahead of all letting go'");
    RefHeap x = heap();
    x.queue(0);
    x.plain(1, 0, 0);
    x.plain(2, 0, 0);
    x.pair(3, 1, 2, 0);
    x.loose(4, 1, 2, 0);
    x.loose(5, 1, 1, 0);
    x.copy(1, -1);
    x.copy(2, -1);
    Due.equal("freed: referent and value at once", x.collect(false), 4);
    Due.equal("all three let go at once", x.count(5), 3);
    RefHeap y = heap();
    y.queue(0);
    y.plain(1, 0, 0);
    y.loose(2, 0, 1, 0);
    y.loose(3, 1, 1, 0);
    y.copy(1, -1);
    Due.equal("freed: held softly alone", y.collect(true), 2);
    Due.equal("soft and weak let go at once", y.count(5), 2);
    RefHeap z = heap();
    z.queue(0);
    z.plain(1, 0, 0);
    z.loose(2, 1, 1, 0);
    z.loose(3, 1, 2, -1);
    z.loose(4, 1, 0, -1);
    z.copy(1, -1);
    z.copy(0, -1);
    Due.equal("freed: what came is reached, so is its queue", z.collect(false), 2);
    Due.equal("one let go", z.count(5), 1);
    Due.equal("freed next: the queue alone", z.collect(false), 3);
    Due.equal("the queue's weak one let go", z.count(5), 2);
  }

  private static void freedOnesComeToNoQueue() {
    Due.says("Term 3, 'a LOOSE one that is FREED comes to no QUEUE'");
    for (int kind = 0; kind < 4; kind++) {
      RefHeap x = heap();
      x.plain(0, 0, 0);
      x.queue(1);
      make(x, 2, kind, 0, 1);
      make(x, 3, kind, 0, 1);
      x.copy(0, -1);
      x.copy(2, -1);
      Due.equal("freed", x.collect(true), 2 + (kind == 3 ? 5 : 4));
      Due.equal("one came", x.waiting(1), 1);
      Due.equal("one let go", x.count(5), 1);
      x.poll(4, 1);
      Due.holds("the one that is held", x.same(4, 3));
    }
  }

  private static void freedAltogether() {
    Due.says("Term 3, 'All that is not REACHED is FREED'");
    RefHeap x = heap();
    for (int n = 0; n < 10; n++) {
      x.row(0, 10, true);
      x.link(0, 0, 1);
      x.copy(1, 0);
      x.queue(2);
      x.loose(3, 0, 1, 2);
      x.pair(4, 3, 1, 2);
      x.link(1, 1, 4);
    }
    for (int i = 0; i < 5; i++) {
      x.copy(i, -1);
    }
    Due.equal("all at once", x.collect(false), 10 * (12 + 3 + 4 + 5));
    Due.equal("used", x.count(0), 0);
    Due.equal("left", x.count(1), 0);
    Due.equal("none let go", x.count(5), 0);
  }

  /** Kinds 0 to 2 as loose numbers them, 3 a pair without a value. */
  private static void make(RefHeap x, int i, int kind, int of, int q) {
    if (kind == 3) {
      x.pair(i, of, -1, q);
    } else {
      x.loose(i, kind, of, q);
    }
  }

  private static void dropAllBut(RefHeap x, int roots, int kept, int alsoKept) {
    for (int i = 0; i < roots; i++) {
      if (i != kept && i != alsoKept) {
        x.copy(i, -1);
      }
    }
  }
}

/** Promise 25. */
public final class DigestTest {
  public static void main(String[] args) {
    nullAndSingles();
    orderOfComing();
    sharedAndRings();
    looseOnesAreNotFollowed();
    wrong();
    Due.finish();
  }

  private static long mixed(long... parts) {
    long h = 7;
    for (long part : parts) {
      h = 31 * h + part;
    }
    return h;
  }

  private static void nullAndSingles() {
    RefHeap x = new RefHeap(600, 64);
    Due.equal("digest of null", x.digest(0), 7);
    x.plain(0, 0, 0);
    Due.equal("digest of an empty plain one", x.digest(0), mixed(0, 0, 0));
    x.plain(0, 2, 2);
    x.set(0, 1, Long.MIN_VALUE + 3);
    Due.equal("digest of a plain one", x.digest(0), mixed(0, 2, 0, 0, 2, 0, Long.MIN_VALUE + 3));
    x.row(1, 2, false);
    x.set(1, 0, -5);
    Due.equal("digest of numbers", x.digest(1), mixed(2, 0, 2, -5, 0));
    x.row(2, 3, true);
    Due.equal("digest of refs", x.digest(2), mixed(1, 3, 0, 0, 0, 0));
    x.queue(3);
    Due.equal("digest of a queue", x.digest(3), mixed(3, 0, 0));
  }

  /** 0 has 1 and 2; 1 has 3; so 2 comes ahead of 3. */
  private static void orderOfComing() {
    RefHeap x = new RefHeap(600, 64);
    x.plain(0, 2, 0);
    x.plain(1, 1, 1);
    x.row(2, 1, false);
    x.queue(3);
    x.link(0, 0, 1);
    x.link(0, 1, 2);
    x.link(1, 0, 3);
    x.set(1, 0, 9);
    long due = mixed(0, 2, 2, 3, 0, 0, 1, 4, 1, 9, 2, 0, 1, 0, 3, 0, 0);
    Due.equal("one object after the other", x.digest(0), due);
    x.collect(true);
    Due.equal("the same after a collection", x.digest(0), due);
    Due.equal("the same again", x.digest(0), due);
  }

  private static void sharedAndRings() {
    RefHeap x = new RefHeap(600, 64);
    x.row(0, 3, true);
    x.plain(1, 1, 0);
    x.link(0, 0, 0);
    x.link(0, 1, 1);
    x.link(0, 2, 1);
    x.link(1, 0, 0);
    Due.equal("ring from 0", x.digest(0), mixed(1, 3, 1, 2, 2, 0, 0, 1, 1, 0));
    Due.equal("ring from 1", x.digest(1), mixed(0, 1, 2, 0, 1, 3, 2, 1, 1, 0));
  }

  private static void looseOnesAreNotFollowed() {
    RefHeap x = new RefHeap(600, 64);
    x.queue(0);
    x.plain(1, 1, 0);
    for (int kind = 0; kind < 3; kind++) {
      x.loose(2, kind, 1, 0);
      Due.equal("digest of a loose one", x.digest(2), mixed(4 + kind, 0, 0));
    }
    x.pair(2, 1, 1, 0);
    Due.equal("digest of a pair", x.digest(2), mixed(7, 0, 0));
    x.clear(2, true);
    Due.equal("digest of a queue with one in it", x.digest(0), mixed(3, 0, 0));
    x.link(1, 0, 2);
    Due.equal("a loose one by a ref", x.digest(1), mixed(0, 1, 2, 0, 7, 0, 0));
  }

  private static void wrong() {
    RefHeap x = new RefHeap(600, 64);
    Due.bad("digest(-1)", () -> x.digest(-1));
    Due.bad("digest(64)", () -> x.digest(64));
    x.open(1);
    Due.equal("digest(64) in a scope", x.digest(64), 7);
  }
}

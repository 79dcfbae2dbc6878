/** Promises 17 to 21: kinds, hashes, sameness and scopes. */
public final class IdentityTest {
  public static void main(String[] args) {
    kind();
    hash();
    same();
    scopes();
    mostScopes();
    scopesWrong();
    Due.finish();
  }

  private static void kind() {
    RefHeap x = new RefHeap(600, 64);
    x.plain(0, 1, 1);
    x.row(1, 1, true);
    x.row(2, 1, false);
    x.queue(3);
    x.loose(4, 0, 0, -1);
    x.loose(5, 1, 0, -1);
    x.loose(6, 2, 0, -1);
    x.pair(7, 0, -1, -1);
    for (int i = 0; i < 8; i++) {
      Due.equal("kind(" + i + ")", x.kind(i), i);
    }
    Due.equal("kind of null", x.kind(8), -1);
    x.clear(7, true);
    Due.equal("kind of one that let go", x.kind(7), 7);
    Due.bad("kind(-1)", () -> x.kind(-1));
    Due.bad("kind(64)", () -> x.kind(64));
  }

  private static void hash() {
    RefHeap x = new RefHeap(600, 64);
    x.every(1);
    for (int i = 0; i < 5; i++) {
      x.plain(i, 1, 0);
    }
    Due.equal("hash of null", x.hash(9), 0);
    Due.equal("first hash asked for", x.hash(3), 1);
    Due.equal("second", x.hash(1), 2);
    Due.equal("first again", x.hash(3), 1);
    x.link(0, 0, 3);
    x.copy(3, -1);
    x.collect(true);
    x.fetch(5, 0, 0);
    Due.equal("first by another way, after a collection", x.hash(5), 1);
    x.copy(1, -1);
    x.collect(true);
    Due.equal("a freed one's hash is not given again", x.hash(4), 3);
    Due.equal("hashes given", x.count(8), 3);
    Due.bad("hash(-1)", () -> x.hash(-1));
    Due.bad("hash(64)", () -> x.hash(64));
  }

  private static void same() {
    RefHeap x = new RefHeap(600, 64);
    x.plain(0, 0, 0);
    x.plain(1, 0, 0);
    x.copy(2, 0);
    Due.holds("same(0, 0)", x.same(0, 0));
    Due.holds("same(0, 2)", x.same(0, 2));
    Due.holds("not same(0, 1)", !x.same(0, 1));
    Due.holds("not same(0, 3)", !x.same(0, 3));
    Due.holds("not same(3, 0)", !x.same(3, 0));
    Due.holds("same(3, 4), both null", x.same(3, 4));
    x.collect(false);
    Due.holds("same(0, 2) after a collection", x.same(0, 2));
    Due.bad("same(-1, 0)", () -> x.same(-1, 0) ? 1 : 0);
    Due.bad("same(0, -1)", () -> x.same(0, -1) ? 1 : 0);
    Due.bad("same(64, 0)", () -> x.same(64, 0) ? 1 : 0);
    Due.bad("same(0, 64)", () -> x.same(0, 64) ? 1 : 0);
  }

  private static void scopes() {
    RefHeap x = new RefHeap(600, 64);
    Due.equal("open(1)", x.open(1), 64);
    Due.equal("open(16)", x.open(16), 65);
    Due.equal("roots", x.count(7), 81);
    x.plain(80, 0, 0);
    x.plain(64, 0, 0);
    Due.bad("kind(81)", () -> x.kind(81));
    Due.equal("a scope's roots keep", x.collect(true), 0);
    Due.equal("close", x.close(), 65);
    Due.bad("kind(80) when closed", () -> x.kind(80));
    Due.equal("open(16) again", x.open(16), 65);
    Due.equal("its roots are null at first", x.kind(80), -1);
    Due.equal("what was there is not kept", x.collect(false), 2);
    Due.equal("close", x.close(), 65);
    Due.equal("the first scope keeps", x.collect(false), 0);
    Due.equal("close", x.close(), 64);
    Due.equal("nothing keeps", x.collect(false), 2);
  }

  private static void mostScopes() {
    RefHeap x = new RefHeap(600, 64);
    for (int i = 0; i < 20; i++) {
      Due.equal("open(16)", x.open(16), 64 + 16 * i);
    }
    Due.state("open a 21st", () -> x.open(1));
    Due.bad("open(17) of a 21st: looked at first", () -> x.open(17));
    Due.equal("roots", x.count(7), 384);
    Due.equal("queue in the last root", x.queue(383), 3);
    Due.bad("root 384", () -> x.queue(384));
    for (int i = 19; i >= 0; i--) {
      Due.equal("close", x.close(), 64 + 16 * i);
    }
    Due.state("close when none is open", x::close);
    Due.equal("roots", x.count(7), 64);
  }

  private static void scopesWrong() {
    RefHeap x = new RefHeap(600, 64);
    Due.state("close at first", x::close);
    Due.bad("open(0)", () -> x.open(0));
    Due.bad("open(-1)", () -> x.open(-1));
    Due.bad("open(17)", () -> x.open(17));
    Due.equal("roots after all that was thrown", x.count(7), 64);
  }
}

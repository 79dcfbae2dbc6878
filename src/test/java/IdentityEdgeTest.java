/** Promises 17 to 21: kinds, hashes, sameness and scopes, at their edges. */
public final class IdentityEdgeTest {
  public static void main(String[] args) {
    kindOfEach();
    kindAtTheLastRoots();
    hashOfNull();
    hashOfEachKind();
    hashStays();
    hashIsNotGivenAgain();
    sameObjects();
    bothNull();
    sameStays();
    openAnswersItsFirstRoot();
    openOneToSixteen();
    openATwentyFirst();
    openAfterClose();
    closeAnswersWhatIsLeft();
    closeWithoutAny();
    closeLetsGoOfItsRoots();
    Due.finish();
  }

  private static void kindOfEach() {
    Due.says("Promise 17, '-1 null, 0 PLAIN, 1 a ROW of REFS, 2 of NUMBERS, 3 a QUEUE, 4 SOFT ..'");
    int[] due = {0, 1, 2, 3, 4, 5, 6, 7, 0, -1, 5, 3, 0, -1, 7, 4};
    RefHeap x = Twins.mixed();
    for (int i = 0; i < due.length; i++) {
      Due.equal("kind(" + i + ")", x.kind(i), due[i]);
    }
    x.collect(true);
    for (int i = 0; i < due.length; i++) {
      Due.equal("kind(" + i + ") after a collection", x.kind(i), due[i]);
    }
    x.plain(0, 0, 0);
    Due.equal("kind of a plain one without fields", x.kind(0), 0);
    x.row(0, 0, true);
    Due.equal("kind of an empty row of refs", x.kind(0), 1);
    x.row(0, 0, false);
    Due.equal("kind of an empty row of numbers", x.kind(0), 2);
  }

  private static void kindAtTheLastRoots() {
    Due.says("Promise 17, 'BAD'");
    RefHeap x = new RefHeap(600, 64);
    Due.bad("kind(-1)", () -> x.kind(-1));
    Due.equal("kind(0)", x.kind(0), -1);
    Due.equal("kind(63)", x.kind(63), -1);
    Due.bad("kind(64)", () -> x.kind(64));
    x.open(2);
    Due.equal("kind(65) in a scope", x.kind(65), -1);
    Due.bad("kind(66)", () -> x.kind(66));
  }

  private static void hashOfNull() {
    Due.says("Promise 18, '0 of null'");
    RefHeap x = new RefHeap(600, 64);
    Due.equal("hash(0)", x.hash(0), 0);
    Due.equal("hash(63)", x.hash(63), 0);
    Due.bad("hash(-1)", () -> x.hash(-1));
    Due.bad("hash(64)", () -> x.hash(64));
    Due.equal("hashes given", x.count(8), 0);
    x.queue(0);
    Due.equal("the first hash", x.hash(0), 1);
    x.copy(0, -1);
    Due.equal("hash of null again", x.hash(0), 0);
    Due.equal("hashes given", x.count(8), 1);
  }

  private static void hashOfEachKind() {
    Due.says("Promise 18, 'The HASH of what ROOT i is', of every kind");
    RefHeap x = Twins.mixed();
    Due.equal("hash(8), asked for before", x.hash(8), 1);
    for (int i = 0; i < 8; i++) {
      Due.equal("hash(" + i + ")", x.hash(i), 2 + i);
    }
    Due.equal("hash(64), which root 0 is, too", x.hash(64), 2);
    Due.equal("hashes given", x.count(8), 9);
  }

  private static void hashStays() {
    Due.says("'identity stays what it is, whatever is moved and whenever': HASHES");
    int[] everies = {0, 1, 2, 5};
    for (int every : everies) {
      RefHeap x = new RefHeap(600, 64);
      x.every(every);
      for (int i = 0; i < 6; i++) {
        x.plain(i, 1, 0);
        x.hash(i);
      }
      x.link(5, 0, 4);
      x.copy(4, -1);
      for (int n = 0; n < 60; n++) {
        x.plain(9, 20, 20);
      }
      Due.holds("collections came", x.count(3) > 0);
      x.fetch(4, 5, 0);
      for (int i = 0; i < 6; i++) {
        Due.equal("hash(" + i + ") with every(" + every + ")", x.hash(i), 1 + i);
      }
      Due.equal("hashes given", x.count(8), 6);
    }
  }

  private static void hashIsNotGivenAgain() {
    Due.says("Term 1, 'the first one 1, then 2 ..', also when the first is FREED");
    RefHeap x = new RefHeap(600, 64);
    for (int n = 1; n <= 100; n++) {
      x.queue(0);
      Due.equal("the next hash", x.hash(0), n);
      if (n % 10 == 0) {
        x.copy(0, -1);
        x.collect(true);
      }
    }
    Due.equal("hashes given", x.count(8), 100);
  }

  private static void sameObjects() {
    Due.says("Promise 19, 'Whether ROOTS i and j are the same OBJECT'");
    RefHeap x = new RefHeap(600, 64);
    x.plain(0, 0, 0);
    x.plain(1, 0, 0);
    x.copy(63, 0);
    Due.holds("same(0, 0)", x.same(0, 0));
    Due.holds("same(0, 63)", x.same(0, 63));
    Due.holds("same(63, 0)", x.same(63, 0));
    Due.holds("not same(0, 1), which are alike", !x.same(0, 1));
    Due.holds("not same(1, 63)", !x.same(1, 63));
    Due.bad("same(0, 64)", () -> x.same(0, 64) ? 1 : 0);
    Due.bad("same(64, 0)", () -> x.same(64, 0) ? 1 : 0);
    Due.bad("same(64, 64)", () -> x.same(64, 64) ? 1 : 0);
  }

  private static void bothNull() {
    Due.says("Promise 19, 'or both null'; -1 is not said to be null there");
    RefHeap x = new RefHeap(600, 64);
    x.queue(0);
    Due.holds("same(1, 2)", x.same(1, 2));
    Due.holds("same(1, 1)", x.same(1, 1));
    Due.holds("not same(0, 1)", !x.same(0, 1));
    Due.holds("not same(1, 0)", !x.same(1, 0));
    Due.bad("same(1, -1)", () -> x.same(1, -1) ? 1 : 0);
    Due.bad("same(-1, 1)", () -> x.same(-1, 1) ? 1 : 0);
    Due.bad("same(-1, -1)", () -> x.same(-1, -1) ? 1 : 0);
  }

  private static void sameStays() {
    Due.says("'identity stays what it is, whatever is moved and whenever'");
    RefHeap x = new RefHeap(600, 64);
    x.every(1);
    x.plain(0, 1, 0);
    x.plain(1, 1, 0);
    x.link(0, 0, 1);
    x.link(1, 0, 0);
    x.loose(2, 0, 1, -1);
    for (int n = 0; n < 20; n++) {
      x.plain(3, 20, 20);
      x.collect(false);
      x.fetch(4, 0, 0);
      x.fetch(5, 4, 0);
      x.referent(6, 2, false);
      Due.holds("by a ref", x.same(4, 1));
      Due.holds("by two refs", x.same(5, 0));
      Due.holds("by a soft one", x.same(6, 1));
      Due.holds("no other", !x.same(0, 1));
    }
  }

  private static void openAnswersItsFirstRoot() {
    Due.says("Promise 20, 'is opened: the number of its first one'");
    RefHeap x = new RefHeap(600, 64);
    int first = 64;
    for (int n = 1; n <= 16; n++) {
      Due.equal("open(" + n + ")", x.open(n), first);
      first += n;
      Due.equal("roots then", x.count(7), first);
      Due.equal("the last of them", x.kind(first - 1), -1);
      int behind = first;
      Due.bad("the one behind it", () -> x.kind(behind));
    }
  }

  private static void openOneToSixteen() {
    Due.says("Promise 20, 'n (1 to 16)' and 'BAD'");
    int[] wrong = {Integer.MIN_VALUE, -16, -1, 0, 17, 18, Integer.MAX_VALUE};
    RefHeap x = new RefHeap(600, 64);
    for (int n : wrong) {
      Due.bad("open(" + n + ")", () -> x.open(n));
      Due.equal("roots then", x.count(7), 64);
    }
    Due.state("no scope is open", x::close);
    Due.equal("open(1)", x.open(1), 64);
    Due.equal("open(16)", x.open(16), 65);
    Due.equal("roots then", x.count(7), 81);
  }

  private static void openATwentyFirst() {
    Due.says("Promise 20, 'IllegalStateException: there are 20'");
    for (int size = 1; size <= 16; size += 15) {
      RefHeap x = new RefHeap(600, 64);
      for (int n = 1; n <= 20; n++) {
        Due.equal("open, the " + n + "th", x.open(size), 64 + size * (n - 1));
      }
      Due.state("open(1), the 21st", () -> x.open(1));
      Due.state("open(16), the 21st", () -> x.open(16));
      Due.bad("open(0): looked at first", () -> x.open(0));
      Due.bad("open(17): looked at first", () -> x.open(17));
      Due.equal("roots then", x.count(7), 64 + 20 * size);
      Due.equal("close", x.close(), 64 + 19 * size);
    }
  }

  private static void openAfterClose() {
    Due.says("Promise 20, a SCOPE is opened where one was closed");
    RefHeap x = new RefHeap(600, 64);
    for (int n = 0; n < 100; n++) {
      Due.equal("open", x.open(1 + n % 16), 64);
      Due.equal("its first root is null", x.kind(64), -1);
      x.queue(64);
      Due.equal("close", x.close(), 64);
    }
    Due.equal("roots", x.count(7), 64);
  }

  private static void closeAnswersWhatIsLeft() {
    Due.says("Promise 21, 'The last SCOPE is closed: how many ROOTS are left'");
    RefHeap x = new RefHeap(600, 64);
    x.open(1);
    x.open(16);
    x.open(5);
    Due.equal("close", x.close(), 81);
    Due.equal("roots", x.count(7), 81);
    Due.bad("root 81", () -> x.kind(81));
    Due.equal("root 80", x.kind(80), -1);
    Due.equal("close", x.close(), 65);
    Due.equal("close", x.close(), 64);
    Due.bad("root 64", () -> x.kind(64));
    Due.equal("root 63", x.kind(63), -1);
  }

  private static void closeWithoutAny() {
    Due.says("Promise 21, 'IllegalStateException: there is none'");
    RefHeap x = new RefHeap(600, 64);
    Due.state("close()", x::close);
    x.open(3);
    Due.equal("close()", x.close(), 64);
    Due.state("close() again", x::close);
    Due.state("close() once more", x::close);
    Due.equal("roots", x.count(7), 64);
    Due.equal("open(3)", x.open(3), 64);
  }

  private static void closeLetsGoOfItsRoots() {
    Due.says("Promise 21 and term 3, a closed SCOPE's ROOTS reach nothing");
    RefHeap x = new RefHeap(600, 64);
    x.open(2);
    x.queue(64);
    x.plain(65, 0, 0);
    x.open(16);
    for (int i = 66; i < 82; i++) {
      x.queue(i);
    }
    x.copy(63, 66);
    Due.equal("close frees nothing by itself", x.close(), 66);
    Due.equal("used", x.count(0), 5 + 16 * 3);
    Due.equal("freed: all of the scope but what root 63 is", x.collect(false), 15 * 3);
    Due.equal("root 64 stays", x.kind(64), 3);
    Due.equal("root 65 stays", x.kind(65), 0);
    x.open(16);
    for (int i = 66; i < 82; i++) {
      Due.equal("a root opened again", x.kind(i), -1);
    }
  }
}

/** Promises 7 to 11: roots, refs and numbers. */
public final class FieldsTest {
  public static void main(String[] args) {
    copy();
    linkAndFetch();
    linkAndFetchWrong();
    setAndGet();
    setAndGetWrong();
    Due.finish();
  }

  private static void copy() {
    RefHeap x = new RefHeap(600, 64);
    x.plain(0, 0, 1);
    Due.equal("copy(63, 0)", x.copy(63, 0), 1);
    Due.holds("both are the same", x.same(63, 0));
    Due.equal("copy(0, 1)", x.copy(0, 1), 0);
    Due.equal("kind(0)", x.kind(0), -1);
    Due.equal("copy(63, -1)", x.copy(63, -1), 0);
    Due.equal("kind(63)", x.kind(63), -1);
    Due.equal("copying frees nothing", x.count(1), 1);
    Due.bad("copy(-1, 0)", () -> x.copy(-1, 0));
    Due.bad("copy(64, 0)", () -> x.copy(64, 0));
    Due.bad("copy(0, -2)", () -> x.copy(0, -2));
    Due.bad("copy(0, 64)", () -> x.copy(0, 64));
  }

  private static void linkAndFetch() {
    RefHeap x = new RefHeap(600, 64);
    x.plain(0, 2, 0);
    x.row(1, 2, true);
    x.queue(2);
    Due.equal("link(0, 1, 1)", x.link(0, 1, 1), 1);
    Due.equal("link(1, 0, 2)", x.link(1, 0, 2), 1);
    Due.equal("link(0, 0, 0)", x.link(0, 0, 0), 1);
    Due.equal("fetch(5, 0, 1)", x.fetch(5, 0, 1), 1);
    Due.holds("5 is 1", x.same(5, 1));
    Due.equal("fetch(5, 5, 0)", x.fetch(5, 5, 0), 1);
    Due.holds("5 is 2", x.same(5, 2));
    Due.equal("fetch(5, 1, 1)", x.fetch(5, 1, 1), 0);
    Due.equal("kind(5)", x.kind(5), -1);
    Due.equal("link to a null root", x.link(0, 0, 9), 0);
    Due.equal("fetch(5, 0, 0)", x.fetch(5, 0, 0), 0);
    Due.equal("link to null", x.link(0, 1, -1), 0);
    Due.equal("fetch(5, 0, 1) of null", x.fetch(5, 0, 1), 0);
  }

  private static void linkAndFetchWrong() {
    RefHeap x = new RefHeap(600, 64);
    x.plain(0, 2, 0);
    x.row(1, 2, false);
    x.queue(2);
    Due.bad("link(-1, 0, 0)", () -> x.link(-1, 0, 0));
    Due.bad("link(64, 0, 0)", () -> x.link(64, 0, 0));
    Due.bad("link(0, -1, 0)", () -> x.link(0, -1, 0));
    Due.bad("link(0, 0, -2)", () -> x.link(0, 0, -2));
    Due.bad("link(9, 0, 64): ahead of what 9 is", () -> x.link(9, 0, 64));
    Due.bad("link(9, -1, 0): ahead of what 9 is", () -> x.link(9, -1, 0));
    Due.state("link(9, 0, 0)", () -> x.link(9, 0, 0));
    Due.state("link(2, 0, 0)", () -> x.link(2, 0, 0));
    Due.state("link(1, 0, 0)", () -> x.link(1, 0, 0));
    Due.state("link(0, 2, 0)", () -> x.link(0, 2, 0));
    Due.state("link(0, MAX, 0)", () -> x.link(0, Integer.MAX_VALUE, 0));
    Due.bad("fetch(-1, 0, 0)", () -> x.fetch(-1, 0, 0));
    Due.bad("fetch(0, -1, 0)", () -> x.fetch(0, -1, 0));
    Due.bad("fetch(0, 64, 0)", () -> x.fetch(0, 64, 0));
    Due.bad("fetch(0, 9, -1): ahead of what 9 is", () -> x.fetch(0, 9, -1));
    Due.state("fetch(0, 9, 0)", () -> x.fetch(0, 9, 0));
    Due.state("fetch(0, 2, 0)", () -> x.fetch(0, 2, 0));
    Due.state("fetch(0, 1, 0)", () -> x.fetch(0, 1, 0));
    Due.state("fetch(0, 0, 2)", () -> x.fetch(0, 0, 2));
    Due.equal("root 0 after all that was thrown", x.kind(0), 0);
  }

  private static void setAndGet() {
    RefHeap x = new RefHeap(600, 64);
    x.plain(0, 1, 2);
    x.row(1, 3, false);
    Due.equal("set(0, 1, MIN)", x.set(0, 1, Long.MIN_VALUE), 0);
    Due.equal("set(0, 1, 5)", x.set(0, 1, 5), Long.MIN_VALUE);
    Due.equal("get(0, 1)", x.get(0, 1), 5);
    Due.equal("get(0, 0)", x.get(0, 0), 0);
    Due.equal("set(1, 2, MAX)", x.set(1, 2, Long.MAX_VALUE), 0);
    Due.equal("get(1, 2)", x.get(1, 2), Long.MAX_VALUE);
    Due.equal("get(1, 1)", x.get(1, 1), 0);
    x.copy(2, 0);
    Due.equal("get through another root", x.get(2, 1), 5);
    x.collect(true);
    Due.equal("get after a collection", x.get(2, 1), 5);
  }

  private static void setAndGetWrong() {
    RefHeap x = new RefHeap(600, 64);
    x.plain(0, 2, 1);
    x.row(1, 2, true);
    x.queue(2);
    Due.bad("set(-1, 0, 1)", () -> x.set(-1, 0, 1));
    Due.bad("set(64, 0, 1)", () -> x.set(64, 0, 1));
    Due.bad("set(9, -1, 1): ahead of what 9 is", () -> x.set(9, -1, 1));
    Due.state("set(9, 0, 1)", () -> x.set(9, 0, 1));
    Due.state("set(2, 0, 1)", () -> x.set(2, 0, 1));
    Due.state("set(1, 0, 1)", () -> x.set(1, 0, 1));
    Due.state("set(0, 1, 1)", () -> x.set(0, 1, 1));
    Due.bad("get(-1, 0)", () -> x.get(-1, 0));
    Due.bad("get(64, 0)", () -> x.get(64, 0));
    Due.bad("get(9, -1): ahead of what 9 is", () -> x.get(9, -1));
    Due.state("get(9, 0)", () -> x.get(9, 0));
    Due.state("get(2, 0)", () -> x.get(2, 0));
    Due.state("get(1, 0)", () -> x.get(1, 0));
    Due.state("get(0, 1)", () -> x.get(0, 1));
    Due.state("get(0, MAX)", () -> x.get(0, Integer.MAX_VALUE));
    Due.equal("number 0 after all that was thrown", x.get(0, 0), 0);
  }
}

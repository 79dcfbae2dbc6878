/** Promises 7 to 11: roots, refs and numbers, at their edges. */
public final class FieldsEdgeTest {
  private static final int[] SIZES = {1, 2, 19, 20};
  private static final int[] LENGTHS = {1, 2, 2999, 3000};

  public static void main(String[] args) {
    copyOfEveryKind();
    copyOfNull();
    copyAtTheLastRoots();
    linkFirstAndLast();
    linkToNull();
    linkToItself();
    linkWithoutAnyRef();
    fetchFirstAndLast();
    fetchOfNull();
    fetchIntoItsOwnRoot();
    setAnswersWhatItWas();
    setFirstAndLast();
    setAndRefsAreApart();
    getWithoutAnyNumber();
    whatIsMovedStaysWhatItIs();
    Due.finish();
  }

  private static RefHeap heap() {
    return new RefHeap(9000, 64);
  }

  private static void copyOfEveryKind() {
    Due.says("Promise 7, 'ROOT i becomes what ROOT j is: 1 if that is an OBJECT, else 0'");
    RefHeap x = Twins.mixed();
    for (int j = 0; j < 16; j++) {
      Due.equal("copy(40, " + j + ")", x.copy(40, j), x.kind(j) == -1 ? 0 : 1);
      Due.holds("root 40 is what root " + j + " is", x.same(40, j));
    }
    Due.equal("copying makes nothing", x.count(2), Twins.mixed().count(2));
    Due.equal("copying frees nothing", x.count(0), Twins.mixed().count(0));
  }

  private static void copyOfNull() {
    Due.says("Promise 7, '(-1: null)'");
    RefHeap x = heap();
    x.plain(0, 0, 0);
    x.copy(1, 0);
    Due.bad("copy(0, -2)", () -> x.copy(0, -2));
    Due.equal("root 0 then", x.kind(0), 0);
    Due.equal("copy(0, -1)", x.copy(0, -1), 0);
    Due.equal("root 0 then", x.kind(0), -1);
    Due.equal("copy(0, 0) of null", x.copy(0, 0), 0);
    Due.equal("copy(1, 1) of an object", x.copy(1, 1), 1);
    Due.equal("copy(1, 0) of a null root", x.copy(1, 0), 0);
    Due.equal("root 1 then", x.kind(1), -1);
  }

  private static void copyAtTheLastRoots() {
    Due.says("Promise 7, 'BAD'");
    RefHeap x = heap();
    x.queue(0);
    Due.equal("copy(63, 0)", x.copy(63, 0), 1);
    Due.bad("copy(64, 0)", () -> x.copy(64, 0));
    Due.bad("copy(0, 64)", () -> x.copy(0, 64));
    Due.bad("copy(-1, 0)", () -> x.copy(-1, 0));
    x.open(1);
    Due.equal("copy(64, 63) in a scope", x.copy(64, 63), 1);
    Due.bad("copy(65, 0)", () -> x.copy(65, 0));
    x.close();
    Due.bad("copy(64, 0) when it is closed", () -> x.copy(64, 0));
    Due.bad("copy(0, 64) when it is closed", () -> x.copy(0, 64));
  }

  /** Root 0 has refs so many, root 1 is what they become, and root 2 another object. */
  private static RefHeap heapWithRefs(int refs) {
    RefHeap x = heap();
    if (refs <= 20) {
      x.plain(0, refs, 3);
    } else {
      x.row(0, refs, true);
    }
    x.queue(1);
    x.plain(2, 0, 0);
    return x;
  }

  private static void linkFirstAndLast() {
    Due.says("Promise 8, 'REF k becomes what ROOT j is: 1' and 'also if there is no REF k'");
    for (int n = 0; n < 8; n++) {
      int refs = n < 4 ? SIZES[n] : LENGTHS[n - 4];
      RefHeap x = heapWithRefs(refs);
      Due.bad("link(0, -1, 1) of " + refs, () -> x.link(0, -1, 1));
      Due.equal("link(0, 0, 1) of " + refs, x.link(0, 0, 1), 1);
      Due.equal("link(0, last, 2) of " + refs, x.link(0, refs - 1, 2), 1);
      Due.state("link(0, behind the last, 2) of " + refs, () -> x.link(0, refs, 2));
      Due.state("link(0, MAX, 2) of " + refs, () -> x.link(0, Integer.MAX_VALUE, 2));
      x.fetch(3, 0, refs - 1);
      Due.holds("the last ref of " + refs, x.same(3, 2));
      x.fetch(3, 0, 0);
      Due.holds("ref 0 of " + refs, x.same(3, refs == 1 ? 2 : 1));
    }
  }

  private static void linkToNull() {
    Due.says("Promise 8, '(-1: null): 1 if that is an OBJECT, else 0'");
    RefHeap x = heapWithRefs(2);
    x.link(0, 1, 1);
    Due.bad("link(0, 1, -2)", () -> x.link(0, 1, -2));
    Due.equal("fetch(3, 0, 1) then", x.fetch(3, 0, 1), 1);
    Due.equal("link(0, 1, -1)", x.link(0, 1, -1), 0);
    Due.equal("fetch(3, 0, 1) then", x.fetch(3, 0, 1), 0);
    x.link(0, 1, 1);
    Due.equal("link(0, 1, 9) of a null root", x.link(0, 1, 9), 0);
    Due.equal("fetch(3, 0, 1) then", x.fetch(3, 0, 1), 0);
    Due.equal("root 1 stays", x.kind(1), 3);
  }

  private static void linkToItself() {
    Due.says("Promise 8, 'REF k becomes what ROOT j is', also itself");
    RefHeap x = heapWithRefs(1);
    Due.equal("link(0, 0, 0)", x.link(0, 0, 0), 1);
    x.fetch(3, 0, 0);
    Due.holds("ref 0 is the object itself", x.same(3, 0));
    x.copy(0, -1);
    x.copy(3, -1);
    Due.equal("freed with itself", x.collect(false), 6);
  }

  private static void linkWithoutAnyRef() {
    Due.says("Promise 8, 'IllegalStateException: also if there is no REF k'");
    RefHeap x = heap();
    x.plain(0, 0, 20);
    x.row(1, 0, true);
    x.row(2, 3, false);
    for (int i = 0; i < 3; i++) {
      int root = i;
      Due.state("link(" + i + ", 0, 0)", () -> x.link(root, 0, 0));
      Due.state("link(" + i + ", 0, -1)", () -> x.link(root, 0, -1));
      Due.state("fetch(9, " + i + ", 0)", () -> x.fetch(9, root, 0));
      Due.bad("link(" + i + ", -1, 0)", () -> x.link(root, -1, 0));
      Due.bad("fetch(9, " + i + ", -1)", () -> x.fetch(9, root, -1));
    }
  }

  private static void fetchFirstAndLast() {
    Due.says("Promise 9, 'ROOT i becomes REF k of what ROOT j is: 1 if that is an OBJECT'");
    for (int n = 0; n < 8; n++) {
      int refs = n < 4 ? SIZES[n] : LENGTHS[n - 4];
      RefHeap x = heapWithRefs(refs);
      x.link(0, refs - 1, 1);
      x.link(0, 0, 2);
      x.copy(63, 1);
      Due.bad("fetch(63, 0, -1) of " + refs, () -> x.fetch(63, 0, -1));
      Due.state("fetch(63, 0, behind the last) of " + refs, () -> x.fetch(63, 0, refs));
      Due.holds("root 63 stays", x.same(63, 1));
      Due.equal("fetch(63, 0, 0) of " + refs, x.fetch(63, 0, 0), 1);
      Due.holds("root 63 is ref 0", x.same(63, 2));
      Due.equal("fetch(62, 0, last) of " + refs, x.fetch(62, 0, refs - 1), 1);
      Due.holds("root 62 is the last ref", x.same(62, refs == 1 ? 2 : 1));
      Due.bad("fetch(64, 0, 0)", () -> x.fetch(64, 0, 0));
    }
  }

  private static void fetchOfNull() {
    Due.says("Promise 9, '.. else 0'");
    RefHeap x = heapWithRefs(2);
    x.link(0, 0, 1);
    Due.equal("fetch(1, 0, 1)", x.fetch(1, 0, 1), 0);
    Due.equal("root 1 is null", x.kind(1), -1);
    Due.equal("fetch(1, 0, 0)", x.fetch(1, 0, 0), 1);
    Due.equal("root 1 is the queue", x.kind(1), 3);
  }

  private static void fetchIntoItsOwnRoot() {
    Due.says("Promise 9, 'ROOT i becomes REF k of what ROOT j is', i and j the same");
    RefHeap x = heapWithRefs(2);
    x.link(0, 1, 1);
    Due.equal("fetch(0, 0, 1)", x.fetch(0, 0, 1), 1);
    Due.holds("root 0 is what its ref was", x.same(0, 1));
    Due.state("fetch(0, 0, 1) again", () -> x.fetch(0, 0, 1));
    Due.holds("root 0 stays", x.same(0, 1));
  }

  private static void setAnswersWhatItWas() {
    Due.says("Promise 10, 'becomes v: what it was'");
    long[] values = {1, -1, Long.MAX_VALUE, Long.MIN_VALUE, 1L << 31, 1L << 32, -(1L << 31) - 1, 0};
    for (int kind = 0; kind < 2; kind++) {
      RefHeap x = heap();
      if (kind == 0) {
        x.plain(0, 0, 1);
      } else {
        x.row(0, 1, false);
      }
      long before = 0;
      for (long value : values) {
        Due.equal("set(0, 0, " + value + ")", x.set(0, 0, value), before);
        Due.equal("get(0, 0)", x.get(0, 0), value);
        before = value;
      }
    }
  }

  private static void setFirstAndLast() {
    Due.says("Promises 10 and 11, 'NUMBER k' and 'Thrown as by link'");
    for (int n = 0; n < 8; n++) {
      int numbers = n < 4 ? SIZES[n] : LENGTHS[n - 4];
      RefHeap x = heap();
      if (numbers <= 20) {
        x.plain(0, 3, numbers);
      } else {
        x.row(0, numbers, false);
      }
      Due.bad("set(0, -1, 5) of " + numbers, () -> x.set(0, -1, 5));
      Due.bad("get(0, -1) of " + numbers, () -> x.get(0, -1));
      Due.equal("set(0, 0, 5) of " + numbers, x.set(0, 0, 5), 0);
      Due.equal("set(0, last, 6) of " + numbers, x.set(0, numbers - 1, 6), numbers == 1 ? 5 : 0);
      Due.state("set(0, behind the last, 7) of " + numbers, () -> x.set(0, numbers, 7));
      Due.state("set(0, MAX, 7) of " + numbers, () -> x.set(0, Integer.MAX_VALUE, 7));
      Due.equal("get(0, 0) of " + numbers, x.get(0, 0), numbers == 1 ? 6 : 5);
      Due.equal("get(0, last) of " + numbers, x.get(0, numbers - 1), 6);
      Due.state("get(0, behind the last) of " + numbers, () -> x.get(0, numbers));
      Due.state("get(0, MAX) of " + numbers, () -> x.get(0, Integer.MAX_VALUE));
    }
  }

  private static void setAndRefsAreApart() {
    Due.says("Promise 10, 'NUMBER k' is no REF, and of that object alone");
    RefHeap x = heap();
    x.plain(0, 2, 2);
    x.plain(1, 2, 2);
    x.link(0, 0, 1);
    x.set(0, 0, 9);
    Due.equal("fetch(2, 0, 0)", x.fetch(2, 0, 0), 1);
    Due.holds("ref 0 is what it was", x.same(2, 1));
    Due.equal("get(0, 0)", x.get(0, 0), 9);
    Due.equal("get(0, 1)", x.get(0, 1), 0);
    Due.equal("get(1, 0) of another", x.get(1, 0), 0);
    x.copy(3, 0);
    x.set(3, 1, 8);
    Due.equal("get by another root", x.get(0, 1), 8);
  }

  private static void getWithoutAnyNumber() {
    Due.says("Promise 11, 'Thrown as by link' if there is no NUMBER k");
    RefHeap x = heap();
    x.plain(0, 20, 0);
    x.row(1, 0, false);
    x.row(2, 3, true);
    for (int i = 0; i < 3; i++) {
      int root = i;
      Due.state("get(" + i + ", 0)", () -> x.get(root, 0));
      Due.state("set(" + i + ", 0, 1)", () -> x.set(root, 0, 1));
      Due.bad("get(" + i + ", -1)", () -> x.get(root, -1));
      Due.bad("set(" + i + ", -1, 1)", () -> x.set(root, -1, 1));
    }
  }

  private static void whatIsMovedStaysWhatItIs() {
    Due.says("'identity stays what it is, whatever is moved and whenever', fields too");
    RefHeap x = heap();
    x.every(1);
    x.plain(0, 2, 2);
    x.row(1, 3, false);
    x.link(0, 1, 1);
    x.set(0, 1, -7);
    x.set(1, 2, 99);
    for (int n = 0; n < 30; n++) {
      x.plain(2, 20, 20);
      if (n % 10 == 9) {
        x.collect(n % 20 == 9);
      }
    }
    Due.equal("get(0, 1)", x.get(0, 1), -7);
    x.fetch(3, 0, 1);
    Due.holds("ref 1 is the row", x.same(3, 1));
    Due.equal("get(3, 2)", x.get(3, 2), 99);
    Due.equal("fetch(3, 0, 0)", x.fetch(3, 0, 0), 0);
  }
}

/** Terms 1 and 2 and the 512 calls: what objects, roots and scopes there are, and the room. */
public final class TermsEdgeTest {
  public static void main(String[] args) {
    refsAndNumbersOfPlainOnes();
    numbersHave64Bits();
    lengthsOfRows();
    cellsOfQueuesAndLooseOnes();
    ranksAreGivenAtMaking();
    hashIsGivenWhenFirstAskedFor();
    rootsZeroTo63();
    rootsOfScopes();
    twentyScopes();
    scopesCloseFromTheLastOne();
    rootsAreNullAtFirst();
    exactlyTheRoomNeedsNoCollection();
    oneAboveTheRoomNeedsOne();
    onlyTheSecondCollectionLetsGoOfSoftOnes();
    notMadeIfItIsStillAbove();
    carryingOverFreesNothing();
    fiveHundredTwelveCalls();
    Due.finish();
  }

  private static void refsAndNumbersOfPlainOnes() {
    Due.says("Term 1, 'A PLAIN one has 0 to 20 REFS and 0 to 20 NUMBERS: 2 CELLS and one each'");
    for (int refs = -1; refs <= 21; refs++) {
      for (int numbers = -1; numbers <= 21; numbers++) {
        plainOfSize(refs, numbers);
      }
    }
  }

  private static void plainOfSize(int refs, int numbers) {
    RefHeap x = new RefHeap(600, 64);
    String call = "plain(0, " + refs + ", " + numbers + ")";
    if (refs < 0 || refs > 20 || numbers < 0 || numbers > 20) {
      Due.bad(call, () -> x.plain(0, refs, numbers));
      Due.equal("used after " + call, x.count(0), 0);
      return;
    }
    Due.equal(call, x.plain(0, refs, numbers), 2 + refs + numbers);
    Due.equal("used after " + call, x.count(0), 2 + refs + numbers);
    for (int k = 0; k < refs; k++) {
      Due.equal("a ref of " + call + " at first", x.fetch(1, 0, k), 0);
    }
    for (int k = 0; k < numbers; k++) {
      Due.equal("a number of " + call + " at first", x.get(0, k), 0);
    }
    Due.state("the ref behind the last of " + call, () -> x.fetch(1, 0, refs));
    Due.state("the number behind the last of " + call, () -> x.get(0, numbers));
  }

  private static void numbersHave64Bits() {
    Due.says("Term 1, 'NUMBERS (64 bits, 0 at first)'");
    RefHeap x = new RefHeap(600, 64);
    x.plain(0, 0, 2);
    x.row(1, 2, false);
    long before = 0;
    for (int bit = 0; bit < 64; bit++) {
      Due.equal("set of a plain one", x.set(0, 1, 1L << bit), before);
      Due.equal("set of a row", x.set(1, 1, ~(1L << bit)), bit == 0 ? 0 : ~before);
      before = 1L << bit;
      Due.equal("get of a plain one", x.get(0, 1), 1L << bit);
      Due.equal("get of a row", x.get(1, 1), ~(1L << bit));
    }
    Due.equal("the number beside it", x.get(0, 0), 0);
    Due.equal("the number beside it in a row", x.get(1, 0), 0);
  }

  private static void lengthsOfRows() {
    Due.says("Term 1, 'A ROW has a length (0 to 3000): 2 CELLS and its length'");
    int[] lengths = {Integer.MIN_VALUE, -2, -1, 0, 1, 2, 2998, 2999, 3000, 3001, Integer.MAX_VALUE};
    for (int length : lengths) {
      rowOfLength(length, true);
      rowOfLength(length, false);
    }
  }

  private static void rowOfLength(int length, boolean refs) {
    RefHeap x = new RefHeap(4000, 64);
    String call = "row(0, " + length + ", " + refs + ")";
    if (length < 0 || length > 3000) {
      Due.bad(call, () -> x.row(0, length, refs));
      Due.equal("kind after " + call, x.kind(0), -1);
      return;
    }
    Due.equal(call, x.row(0, length, refs), 2 + length);
    Due.equal("used after " + call, x.count(0), 2 + length);
    Due.equal("kind after " + call, x.kind(0), refs ? 1 : 2);
    if (length > 0) {
      Due.equal("first of " + call, refs ? x.fetch(1, 0, 0) : x.get(0, 0), 0);
      Due.equal("last of " + call, refs ? x.fetch(1, 0, length - 1) : x.get(0, length - 1), 0);
    }
    Due.state("behind the last ref of " + call, () -> x.fetch(1, 0, refs ? length : 0));
    Due.state("behind the last number of " + call, () -> x.get(0, refs ? 0 : length));
  }

  private static void cellsOfQueuesAndLooseOnes() {
    Due.says("Term 1, 'A QUEUE: 3 CELLS. SOFT (4 CELLS), WEAK (4), PHANTOM (4) or a PAIR (5)'");
    RefHeap x = new RefHeap(600, 64);
    x.plain(0, 0, 0);
    Due.equal("queue", x.queue(1), 3);
    Due.equal("used with a queue", x.count(0), 5);
    for (int kind = 0; kind < 3; kind++) {
      Due.equal("loose of kind " + kind, x.loose(2 + kind, kind, 0, 1), 4);
      Due.equal("used with it", x.count(0), 9 + 4 * kind);
    }
    Due.equal("pair", x.pair(5, 0, 0, 1), 5);
    Due.equal("used with a pair", x.count(0), 22);
    int[] cells = {4, 4, 4, 5};
    for (int i = 0; i < 4; i++) {
      x.copy(2 + i, -1);
      Due.equal("cells freed with it", x.collect(false), cells[i]);
    }
    x.copy(1, -1);
    Due.equal("cells freed with the queue", x.collect(false), 3);
  }

  private static void ranksAreGivenAtMaking() {
    Due.says("Term 1, 'LOOSE ones are ranked as they are made'");
    RefHeap x = new RefHeap(600, 64);
    x.plain(0, 0, 0);
    x.queue(1);
    for (int n = 0; n < 12; n++) {
      int i = 40 - n;
      if (n % 4 == 3) {
        x.pair(i, 0, -1, 1);
      } else {
        x.loose(i, n % 4, 0, 1);
      }
      x.loose(50, 1, 0, 1);
    }
    x.copy(50, -1);
    x.collect(false);
    x.copy(0, -1);
    x.collect(true);
    for (int n = 0; n < 12; n++) {
      x.poll(51, 1);
      Due.holds("the one made at place " + n + " comes there", x.same(51, 40 - n));
    }
    Due.equal("no other came", x.waiting(1), 0);
  }

  private static void hashIsGivenWhenFirstAskedFor() {
    Due.says("Term 1, 'An OBJECT has a HASH: when it is first asked for, the first one 1, then 2'");
    RefHeap x = new RefHeap(600, 64);
    for (int i = 0; i < 10; i++) {
      x.queue(i);
    }
    Due.equal("hashes given by making", x.count(8), 0);
    Due.equal("hash of null gives none", x.hash(10), 0);
    for (int i = 9; i >= 0; i--) {
      Due.equal("first asked for", x.hash(i), 10 - i);
      Due.equal("asked for again", x.hash(i), 10 - i);
      Due.equal("hashes given", x.count(8), 10 - i);
    }
  }

  private static void rootsZeroTo63() {
    Due.says("Term 1, 'ROOTS 0 to 63 are always there'");
    RefHeap x = new RefHeap(600, 64);
    for (int i = 0; i < 64; i++) {
      Due.equal("queue in root " + i, x.queue(i), 3);
    }
    Due.bad("queue in root -1", () -> x.queue(-1));
    Due.bad("queue in root 64", () -> x.queue(64));
    x.open(1);
    Due.equal("close", x.close(), 64);
    Due.state("close of what is always there", x::close);
    for (int i = 0; i < 64; i++) {
      Due.equal("root " + i + " stays", x.kind(i), 3);
    }
  }

  private static void rootsOfScopes() {
    Due.says("Term 1, 'a SCOPE has 1 to 16 more of its own, numbered on from the last one'");
    for (int n = -1; n <= 18; n++) {
      RefHeap x = new RefHeap(600, 64);
      int size = n;
      if (n < 1 || n > 16) {
        Due.bad("open(" + n + ")", () -> x.open(size));
        Due.bad("root 64 after it", () -> x.kind(64));
        continue;
      }
      Due.equal("open(" + n + ")", x.open(n), 64);
      Due.equal("its last root", x.queue(63 + n), 3);
      Due.bad("the root behind it", () -> x.queue(64 + size));
      Due.equal("open(16) behind it", x.open(16), 64 + n);
      Due.equal("the last root of that", x.queue(79 + n), 3);
      Due.bad("the root behind that", () -> x.queue(80 + size));
    }
  }

  private static void twentyScopes() {
    Due.says("Term 1, 'at most 20 are open'");
    RefHeap x = new RefHeap(600, 64);
    for (int n = 1; n <= 20; n++) {
      Due.equal("open(16), the " + n + "th", x.open(16), 48 + 16 * n);
    }
    Due.state("open(1), the 21st", () -> x.open(1));
    Due.equal("roots of 20 scopes", x.count(7), 384);
    Due.equal("the last root there can be", x.queue(383), 3);
    Due.bad("the root behind it", () -> x.queue(384));
    Due.equal("close", x.close(), 368);
    Due.equal("open again, the 20th", x.open(1), 368);
    Due.state("open(1), the 21st again", () -> x.open(1));
    Due.equal("roots then", x.count(7), 369);
  }

  private static void scopesCloseFromTheLastOne() {
    Due.says("Term 1, 'scopes are closed from the last one on'");
    RefHeap x = new RefHeap(600, 64);
    int[] starts = new int[20];
    for (int n = 0; n < 20; n++) {
      starts[n] = x.open(1 + n * 7 % 16);
      x.queue(starts[n]);
    }
    for (int n = 19; n >= 0; n--) {
      int start = starts[n];
      Due.equal("close leaves what was there ahead of it", x.close(), start);
      Due.bad("its first root is there no more", () -> x.kind(start));
      Due.holds("the root ahead of it is", x.kind(start - 1) >= -1);
      Due.equal("its own object alone is held no more", x.collect(false), 3);
    }
  }

  private static void rootsAreNullAtFirst() {
    Due.says("Term 1, 'A ROOT is an OBJECT or null (at first)'");
    RefHeap x = new RefHeap(600, 64);
    for (int i = 0; i < 64; i++) {
      Due.equal("kind of root " + i, x.kind(i), -1);
    }
    x.open(16);
    for (int i = 64; i < 80; i++) {
      Due.equal("kind of a scope's root " + i, x.kind(i), -1);
      x.queue(i);
    }
    x.close();
    x.open(1);
    x.open(15);
    for (int i = 64; i < 80; i++) {
      Due.equal("kind of root " + i + " of a later scope", x.kind(i), -1);
    }
  }

  /** Calls that make an object of the cells in CELLS; roots 0 and 1 are a plain one and a queue. */
  private static long make(RefHeap x, int which) {
    return switch (which) {
      case 0 -> x.plain(9, 0, 0);
      case 1 -> x.plain(9, 20, 20);
      case 2 -> x.row(9, 0, true);
      case 3 -> x.row(9, 100, false);
      case 4 -> x.queue(9);
      case 5 -> x.loose(9, 0, 0, 1);
      case 6 -> x.loose(9, 1, 0, 1);
      case 7 -> x.loose(9, 2, 0, 1);
      default -> x.pair(9, 0, 0, 1);
    };
  }

  private static final int[] CELLS = {2, 42, 2, 102, 3, 4, 4, 4, 5};

  /** A heap of room 600 with 5 held cells, and rows for the rest but for what is left. */
  private static RefHeap heapWithLeft(int left, boolean held) {
    RefHeap x = new RefHeap(600, 64);
    x.plain(0, 0, 0);
    x.queue(1);
    x.row(2, 600 - 5 - left - 2, false);
    if (!held) {
      x.copy(2, -1);
    }
    return x;
  }

  private static void exactlyTheRoomNeedsNoCollection() {
    Due.says("Term 2, 'if USED and its CELLS are above ROOM, a WHOLE COLLECTION'");
    for (int which = 0; which < CELLS.length; which++) {
      for (int left = CELLS[which]; left <= CELLS[which] + 1; left++) {
        RefHeap x = heapWithLeft(left, false);
        Due.equal("making " + which + " with room for it", make(x, which), CELLS[which]);
        Due.equal("collections then", x.count(3), 0);
        Due.equal("used then", x.count(0), 600 - left + CELLS[which]);
      }
    }
  }

  private static void oneAboveTheRoomNeedsOne() {
    Due.says("Term 2, 'if USED and its CELLS are above ROOM, a WHOLE COLLECTION'");
    for (int which = 0; which < CELLS.length; which++) {
      RefHeap x = heapWithLeft(CELLS[which] - 1, false);
      Due.equal("making " + which + " one above the room", make(x, which), CELLS[which]);
      Due.equal("collections then", x.count(3), 1);
      Due.equal("used then", x.count(0), 5 + CELLS[which]);
      Due.equal("not made", x.count(9), 0);
    }
    Due.says("Term 2, 'if they still are' after the first collection");
    for (int above = -1; above <= 1; above++) {
      RefHeap x = new RefHeap(600, 64);
      x.row(0, 298, false);
      x.row(1, 98, false);
      x.copy(1, -1);
      x.row(2, 198, false);
      int length = 98 + above;
      Due.equal("row(3, " + length + ")", x.row(3, length, true), above > 0 ? 0 : 2 + length);
      Due.equal("collections then", x.count(3), above > 0 ? 2 : 1);
      Due.equal("the most used", x.count(6), 600);
    }
  }

  /** Root 0 holds 200 cells, a soft one 104 (with 4 of its own), and 290 are held by none. */
  private static void onlyTheSecondCollectionLetsGoOfSoftOnes() {
    Due.says("Term 2, 'if they still are, one that lets go of SOFT ones, too'");
    int[] lengths = {393, 394, 395, 493, 494, 495};
    for (int length : lengths) {
      RefHeap x = new RefHeap(700, 64);
      x.row(0, 198, false);
      x.row(1, 98, false);
      x.loose(2, 0, 1, -1);
      x.row(1, 288, false);
      x.copy(1, -1);
      boolean second = length > 394;
      boolean made = length <= 494;
      Due.equal("row(3, " + length + ")", x.row(3, length, false), made ? 2 + length : 0);
      Due.equal("collections then", x.count(3), second ? 2 : 1);
      Due.equal("soft ones let go of", x.count(5), second ? 1 : 0);
      Due.equal("the soft one's referent", x.referent(4, 2, false), second ? 0 : 1);
      Due.equal("not made", x.count(9), made ? 0 : 1);
      Due.equal("used then", x.count(0), 204 + (second ? 0 : 100) + (made ? 2 + length : 0));
    }
    Due.says("Term 2, a WHOLE COLLECTION, the first one, lets go of what is WEAK");
    RefHeap x = new RefHeap(600, 64);
    x.row(0, 498, false);
    x.loose(1, 1, 0, -1);
    x.copy(0, -1);
    Due.equal("row(0, 398, true)", x.row(0, 398, true), 400);
    Due.equal("collections", x.count(3), 1);
    Due.equal("the weak one let go", x.count(5), 1);
  }

  private static void notMadeIfItIsStillAbove() {
    Due.says("Term 2, 'if they still are, it is not made'");
    for (int which = 0; which < CELLS.length; which++) {
      for (int left = CELLS[which] - 1; left <= CELLS[which]; left++) {
        RefHeap x = heapWithLeft(left, true);
        x.copy(9, 1);
        boolean fits = left == CELLS[which];
        Due.equal("making " + which + " in what is left", make(x, which), fits ? CELLS[which] : 0);
        Due.equal("collections then", x.count(3), fits ? 0 : 2);
        Due.equal("not made", x.count(9), fits ? 0 : 1);
        Due.equal("made", x.count(2), fits ? 4 : 3);
        Due.equal("left alive", x.count(1), fits ? 4 : 3);
        Due.equal("used", x.count(0), fits ? 600 : 600 - left);
        Due.equal("the most used", x.count(6), fits ? 600 : 600 - left);
        Due.holds("ROOT 9 stays", x.same(9, 1) != fits);
      }
    }
  }

  private static void carryingOverFreesNothing() {
    Due.says("Term 2, 'What is carried over at other times, and when, is not told, frees nothing'");
    int[] everies = {0, 1, 2, 3, 7, Integer.MAX_VALUE};
    for (int every : everies) {
      RefHeap x = new RefHeap(30000, 64);
      x.every(every);
      x.plain(1, 0, 0);
      x.loose(2, 1, 1, -1);
      x.copy(1, -1);
      for (int n = 1; n <= 100; n++) {
        x.plain(0, 20, 20);
        Due.equal("used with every(" + every + ")", x.count(0), 6 + 42 * n);
        Due.equal("left with every(" + every + ")", x.count(1), 2 + n);
      }
      Due.equal("collections", x.count(3), 0);
      Due.equal("the weak one's referent", x.referent(1, 2, false), 1);
    }
  }

  private static void fiveHundredTwelveCalls() {
    Due.says("'An object is used for at most 512 calls after it has been made'");
    RefHeap rows = new RefHeap(30000, 4000);
    for (int n = 1; n <= 512; n++) {
      Due.equal("call " + n + ", a row", rows.row(n % 8, 3000, n % 2 == 0), 3002);
    }
    RefHeap chain = new RefHeap(30000, 64);
    for (int n = 0; n < 255; n++) {
      Due.equal("an object of a chain", chain.plain(n % 2, 1, 1), 4);
      chain.link(n % 2, 0, 1 - n % 2);
    }
    Due.equal("call 511, freeing none", chain.collect(true), 0);
    long h = 7;
    for (int n = 1; n <= 255; n++) {
      int place = n == 255 ? 0 : n + 1;
      h = 31 * (31 * (31 * (31 * (31 * h) + 1) + place) + 1);
    }
    Due.equal("call 512, the chain's digest", chain.digest(0), h);
  }
}

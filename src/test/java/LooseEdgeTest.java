/** Promises 12 to 16: referents, values and queues, at their edges. */
public final class LooseEdgeTest {
  private static final int SOFT = 2;
  private static final int WEAK = 3;
  private static final int PHANTOM = 4;
  private static final int PAIR = 5;
  private static final int[] ALL = {SOFT, WEAK, PHANTOM, PAIR};
  private static final int ELSE = 9;

  public static void main(String[] args) {
    referentOfEach();
    referentOfAPhantomIsNull();
    referentAfterLettingGo();
    referentIntoItsOwnRoot();
    valueOfAPairAlone();
    giveWhatARootIs();
    giveNull();
    giveAfterLettingGo();
    clearTold();
    clearUntold();
    clearOfOneThatCame();
    clearWithoutAQueue();
    clearIsNoCollection();
    pollTheFirstOne();
    pollAnEmptyOne();
    pollIntoItsOwnRoot();
    pollAcrossEmptiness();
    waitingFromNoneToMany();
    Due.finish();
  }

  /** Root 0 plain, 1 queue, 2 to 5 soft, weak, phantom and pair of 0 to 1; the value is root 6. */
  private static RefHeap heap() {
    RefHeap x = new RefHeap(600, 64);
    x.plain(0, 0, 0);
    x.queue(1);
    x.plain(6, 0, 1);
    x.loose(SOFT, 0, 0, 1);
    x.loose(WEAK, 1, 0, 1);
    x.loose(PHANTOM, 2, 0, 1);
    x.pair(PAIR, 0, 6, 1);
    x.copy(ELSE, 1);
    return x;
  }

  private static void referentOfEach() {
    Due.says("Promise 12, 'ROOT i becomes the REFERENT of the LOOSE one: 1 if that is an OBJECT'");
    int[] withReferents = {SOFT, WEAK, PAIR};
    for (int j : withReferents) {
      RefHeap x = heap();
      Due.equal("referent(9, " + j + ", false)", x.referent(ELSE, j, false), 1);
      Due.holds("root 9 is it", x.same(ELSE, 0));
      Due.equal("referent(63, " + j + ", false)", x.referent(63, j, false), 1);
      Due.bad("referent(64, " + j + ", false)", () -> x.referent(64, j, false));
      Due.bad("referent(-1, " + j + ", false)", () -> x.referent(-1, j, false));
    }
  }

  private static void referentOfAPhantomIsNull() {
    Due.says("Promise 12, '(a PHANTOM's: null)'");
    RefHeap x = heap();
    Due.equal("referent(9, 4, false)", x.referent(ELSE, PHANTOM, false), 0);
    Due.equal("root 9 is null", x.kind(ELSE), -1);
    x.collect(true);
    Due.equal("it did not let go", x.count(5), 0);
    x.copy(0, -1);
    x.collect(true);
    Due.equal("it lets go with the others", x.count(5), 4);
  }

  private static void referentAfterLettingGo() {
    Due.says("Promise 12, '1 if that is an OBJECT, else 0'");
    for (int j : ALL) {
      RefHeap x = heap();
      x.clear(j, false);
      Due.equal("referent of one that let go", x.referent(ELSE, j, false), 0);
      Due.equal("root 9 is null", x.kind(ELSE), -1);
      x.copy(ELSE, 0);
      Due.equal("referent of it again", x.referent(ELSE, j, false), 0);
      Due.equal("root 9 is null again", x.kind(ELSE), -1);
    }
  }

  private static void referentIntoItsOwnRoot() {
    Due.says("Promise 12, 'ROOT i becomes ..', i and j the same");
    for (int j : ALL) {
      RefHeap x = heap();
      Due.equal("referent(j, j, false)", x.referent(j, j, false), j == PHANTOM ? 0 : 1);
      Due.holds("what root j is then", x.same(j, j == PHANTOM ? 40 : 0));
      Due.state("referent(j, j, false) again", () -> x.referent(j, j, false));
    }
    RefHeap x = heap();
    Due.equal("referent(5, 5, true)", x.referent(PAIR, PAIR, true), 1);
    Due.holds("root 5 is the value", x.same(PAIR, 6));
  }

  private static void valueOfAPairAlone() {
    Due.says("Promise 12, 'or (value) the VALUE of the PAIR'");
    RefHeap x = heap();
    int[] others = {0, 1, SOFT, WEAK, PHANTOM, 40};
    for (int j : others) {
      Due.state("referent(9, " + j + ", true)", () -> x.referent(ELSE, j, true));
      Due.holds("root 9 stays", x.same(ELSE, 1));
    }
    Due.equal("referent(9, 5, true)", x.referent(ELSE, PAIR, true), 1);
    Due.holds("root 9 is the value", x.same(ELSE, 6));
    x.give(PAIR, -1);
    Due.equal("referent(9, 5, true) of null", x.referent(ELSE, PAIR, true), 0);
    Due.equal("root 9 is null", x.kind(ELSE), -1);
    Due.equal("referent(9, 5, false) then", x.referent(ELSE, PAIR, false), 1);
  }

  private static void giveWhatARootIs() {
    Due.says("Promise 13, 'The VALUE of the PAIR becomes what ROOT j is .. 1'");
    RefHeap x = heap();
    for (int j = 0; j <= 6; j++) {
      Due.equal("give(5, " + j + ")", x.give(PAIR, j), 1);
      x.referent(ELSE, PAIR, true);
      Due.holds("the value is what root " + j + " is", x.same(ELSE, j));
      x.referent(ELSE, PAIR, false);
      Due.holds("the referent is what it was", x.same(ELSE, 0));
    }
    x.give(PAIR, 6);
    x.copy(6, -1);
    Due.equal("freed: the value given is kept", x.collect(false), 0);
    x.give(PAIR, 0);
    Due.equal("freed: the value that it was is not", x.collect(false), 3);
  }

  private static void giveNull() {
    Due.says("Promise 13, '(-1: null)'");
    RefHeap x = heap();
    Due.bad("give(5, -2)", () -> x.give(PAIR, -2));
    Due.equal("the value stays", x.referent(ELSE, PAIR, true), 1);
    Due.equal("give(5, -1)", x.give(PAIR, -1), 1);
    Due.equal("the value is null", x.referent(ELSE, PAIR, true), 0);
    x.give(PAIR, 6);
    Due.equal("give(5, 40) of a null root", x.give(PAIR, 40), 1);
    Due.equal("the value is null", x.referent(ELSE, PAIR, true), 0);
    Due.bad("give(5, 64)", () -> x.give(PAIR, 64));
    Due.equal("give(5, 63)", x.give(PAIR, 63), 1);
  }

  private static void giveAfterLettingGo() {
    Due.says("Promise 13, 'if its REFERENT is not null: 1; else 0'");
    RefHeap cleared = heap();
    cleared.clear(PAIR, false);
    RefHeap collected = heap();
    collected.copy(0, -1);
    collected.collect(true);
    RefHeap[] both = {cleared, collected};
    for (RefHeap x : both) {
      Due.equal("give(5, 6)", x.give(PAIR, 6), 0);
      Due.equal("the value stays null", x.referent(ELSE, PAIR, true), 0);
      Due.equal("give(5, -1)", x.give(PAIR, -1), 0);
      Due.equal("the value is null", x.referent(ELSE, PAIR, true), 0);
      x.copy(6, -1);
      Due.holds("what was not given is not kept", x.collect(false) >= 3);
    }
  }

  private static void clearTold() {
    Due.says("Promise 14, '(told) it comes to its QUEUE, if it has one and never came: 1'");
    int came = 0;
    RefHeap x = heap();
    for (int i : ALL) {
      Due.equal("clear(" + i + ", true)", x.clear(i, true), 1);
      came++;
      Due.equal("waiting", x.waiting(1), came);
      Due.equal("count(4)", x.count(4), came);
      Due.equal("its referent", x.referent(ELSE, i, false), 0);
    }
    Due.equal("the pair's value", x.referent(ELSE, PAIR, true), 0);
    for (int i : ALL) {
      x.poll(ELSE, 1);
      Due.holds("they came in the order of the calls", x.same(ELSE, i));
    }
  }

  private static void clearUntold() {
    Due.says("Promise 14, 'REFERENT and VALUE become null .. else 0'");
    for (int i : ALL) {
      RefHeap x = heap();
      Due.equal("clear(" + i + ", false)", x.clear(i, false), 0);
      Due.equal("waiting", x.waiting(1), 0);
      Due.equal("count(4)", x.count(4), 0);
      Due.equal("its referent", x.referent(ELSE, i, false), 0);
      Due.equal("clear(" + i + ", false) again", x.clear(i, false), 0);
      Due.equal("clear(" + i + ", true): it never came", x.clear(i, true), 1);
      Due.equal("waiting", x.waiting(1), 1);
    }
    RefHeap x = heap();
    x.clear(PAIR, false);
    Due.equal("the pair's value", x.referent(ELSE, PAIR, true), 0);
    x.copy(6, -1);
    Due.equal("freed: the value is kept no more", x.collect(false), 3);
  }

  private static void clearOfOneThatCame() {
    Due.says("Promise 14, 'and never came to it'");
    for (int i : ALL) {
      RefHeap x = heap();
      x.clear(i, true);
      Due.equal("clear while it waits", x.clear(i, true), 0);
      Due.equal("waiting", x.waiting(1), 1);
      x.poll(ELSE, 1);
      Due.equal("clear when it has left", x.clear(i, true), 0);
      Due.equal("waiting", x.waiting(1), 0);
      Due.equal("count(4)", x.count(4), 1);
      RefHeap y = heap();
      y.copy(0, -1);
      y.collect(true);
      Due.equal("clear when it came by a collection", y.clear(i, true), 0);
      Due.equal("waiting", y.waiting(1), 4);
      Due.equal("count(4)", y.count(4), 4);
    }
  }

  private static void clearWithoutAQueue() {
    Due.says("Promise 14, 'if it has one'");
    for (int kind = 0; kind < 4; kind++) {
      RefHeap x = heap();
      long made = kind == 3 ? x.pair(ELSE, 0, 6, -1) : x.loose(ELSE, kind, 0, -1);
      Due.equal("made", made, kind == 3 ? 5 : 4);
      Due.equal("clear(9, true)", x.clear(ELSE, true), 0);
      Due.equal("its referent", x.referent(40, ELSE, false), 0);
      Due.equal("none came", x.count(4), 0);
      Due.equal("clear(9, true) again", x.clear(ELSE, true), 0);
    }
  }

  private static void clearIsNoCollection() {
    Due.says("Promise 14, 'lets go by itself' and promise 24, '5: .. in a COLLECTION'");
    RefHeap x = heap();
    int used = x.count(0);
    for (int i : ALL) {
      x.clear(i, true);
    }
    Due.equal("let go in a collection", x.count(5), 0);
    Due.equal("collections", x.count(3), 0);
    Due.equal("used", x.count(0), used);
    x.copy(0, -1);
    Due.equal("freed", x.collect(true), 2);
    Due.equal("let go in that collection", x.count(5), 0);
    Due.equal("waiting", x.waiting(1), 4);
  }

  private static void pollTheFirstOne() {
    Due.says("Promise 15, 'ROOT i becomes the first one of the QUEUE, which leaves it: 1'");
    RefHeap x = heap();
    int[] order = {PHANTOM, SOFT, PAIR, WEAK};
    for (int i : order) {
      x.clear(i, true);
    }
    for (int n = 0; n < 4; n++) {
      Due.equal("poll(9, 1)", x.poll(ELSE, 1), 1);
      Due.holds("the first one", x.same(ELSE, order[n]));
      Due.equal("it leaves the queue", x.waiting(1), 3 - n);
      Due.equal("how often one came stays", x.count(4), 4);
    }
    Due.equal("poll(9, 1) of what is empty now", x.poll(ELSE, 1), 0);
    Due.bad("poll(64, 1)", () -> x.poll(64, 1));
    Due.bad("poll(-1, 1)", () -> x.poll(-1, 1));
  }

  private static void pollAnEmptyOne() {
    Due.says("Promise 15, '0 if it is empty (ROOT i is null then)'");
    RefHeap x = heap();
    Due.equal("poll(9, 1)", x.poll(ELSE, 1), 0);
    Due.equal("root 9 is null", x.kind(ELSE), -1);
    Due.equal("poll(63, 1) into a null root", x.poll(63, 1), 0);
    Due.equal("waiting", x.waiting(1), 0);
    Due.equal("poll(1, 1) into its own root", x.poll(1, 1), 0);
    Due.equal("root 1 is null", x.kind(1), -1);
    Due.state("poll(9, 1) then", () -> x.poll(ELSE, 1));
  }

  private static void pollIntoItsOwnRoot() {
    Due.says("Promise 15, 'ROOT i becomes the first one', i and j the same");
    RefHeap x = heap();
    x.clear(WEAK, true);
    x.clear(SOFT, true);
    Due.equal("poll(1, 1)", x.poll(1, 1), 1);
    Due.holds("root 1 is the first one", x.same(1, WEAK));
    Due.equal("the queue stays in root 9", x.waiting(ELSE), 1);
  }

  /** A queue is used on, from empty to empty, with one and with two in it. */
  private static void pollAcrossEmptiness() {
    Due.says("Promise 15, the first one of a QUEUE that was empty in between");
    RefHeap x = heap();
    x.clear(SOFT, true);
    x.poll(ELSE, 1);
    Due.equal("empty", x.poll(ELSE, 1), 0);
    x.clear(PAIR, true);
    x.clear(WEAK, true);
    x.poll(ELSE, 1);
    Due.holds("the pair", x.same(ELSE, PAIR));
    x.clear(PHANTOM, true);
    x.poll(ELSE, 1);
    Due.holds("the weak one", x.same(ELSE, WEAK));
    x.poll(ELSE, 1);
    Due.holds("the phantom", x.same(ELSE, PHANTOM));
    Due.equal("empty again", x.poll(ELSE, 1), 0);
    Due.equal("waiting", x.waiting(1), 0);
  }

  private static void waitingFromNoneToMany() {
    Due.says("Promise 16, 'How many are in the QUEUE that ROOT i is'");
    RefHeap x = new RefHeap(600, 64);
    x.plain(0, 0, 0);
    x.queue(63);
    x.queue(62);
    for (int n = 0; n < 40; n++) {
      Due.equal("waiting(63)", x.waiting(63), n);
      x.loose(1, n % 3, 0, 63);
      Due.equal("waiting(63) with one that did not come", x.waiting(63), n);
      x.clear(1, true);
    }
    x.copy(1, -1);
    x.collect(true);
    for (int n = 40; n >= 0; n--) {
      Due.equal("waiting(63)", x.waiting(63), n);
      Due.equal("poll(1, 63)", x.poll(1, 63), n == 0 ? 0 : 1);
    }
    Due.equal("waiting(62) of another", x.waiting(62), 0);
    Due.state("waiting(61) of null", () -> x.waiting(61));
    Due.state("waiting(0) of a plain one", () -> x.waiting(0));
    Due.bad("waiting(64)", () -> x.waiting(64));
    Due.bad("waiting(-1)", () -> x.waiting(-1));
  }
}

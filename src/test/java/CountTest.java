/** Promises 23 and 24: carrying over changes no answer, and the counts. */
public final class CountTest {
  public static void main(String[] args) {
    every();
    carryingOverIsNotTold();
    counts();
    mostUsed();
    Due.finish();
  }

  private static void every() {
    RefHeap x = new RefHeap(600, 64);
    Due.equal("every(0)", x.every(0), 0);
    Due.equal("every(1)", x.every(1), 1);
    Due.equal("every(MAX)", x.every(Integer.MAX_VALUE), Integer.MAX_VALUE);
    Due.bad("every(-1)", () -> x.every(-1));
    Due.bad("every(MIN)", () -> x.every(Integer.MIN_VALUE));
  }

  private static void carryingOverIsNotTold() {
    String usual = story(new RefHeap(900, 64), 0);
    for (int n = 1; n < 6; n++) {
      Due.text("story with every(" + n + ")", story(new RefHeap(900, 64), n), usual);
    }
    Due.text("story with a larger young", story(new RefHeap(900, 4000), 0), usual);
  }

  private static String story(RefHeap x, int n) {
    StringBuilder told = new StringBuilder();
    x.every(n);
    x.queue(0);
    for (int i = 0; i < 60; i++) {
      told.append(x.plain(1, 2, 20)).append(' ');
      x.set(1, 3, i);
      told.append(x.loose(2 + i % 7, i % 3, 1, 0)).append(' ');
      x.plain(1, 1, 0);
      told.append(x.hash(2 + i % 5)).append(' ');
      told.append(x.count(0)).append(' ').append(x.waiting(0)).append(' ');
      told.append(x.poll(20, 0)).append(' ');
    }
    for (int what = 0; what < 10; what++) {
      told.append(x.count(what)).append(' ');
    }
    return told.toString();
  }

  private static void counts() {
    RefHeap x = new RefHeap(600, 64);
    x.queue(0);
    x.plain(1, 1, 1);
    x.loose(2, 1, 1, 0);
    x.loose(3, 2, 1, -1);
    x.hash(3);
    x.hash(2);
    x.open(5);
    x.copy(1, -1);
    x.collect(false);
    x.row(9, 3000, true);
    int[] due = {11, 3, 4, 3, 1, 2, 15, 69, 2, 1};
    for (int what = 0; what < due.length; what++) {
      Due.equal("count(" + what + ")", x.count(what), due[what]);
    }
    Due.bad("count(-1)", () -> x.count(-1));
    Due.bad("count(10)", () -> x.count(10));
    Due.bad("count(MIN)", () -> x.count(Integer.MIN_VALUE));
  }

  private static void mostUsed() {
    RefHeap x = new RefHeap(600, 64);
    x.row(0, 98, true);
    x.row(0, 48, true);
    Due.equal("most used", x.count(6), 150);
    x.collect(false);
    Due.equal("used", x.count(0), 50);
    Due.equal("most used stays", x.count(6), 150);
    x.row(1, 97, true);
    Due.equal("most used stays below it", x.count(6), 150);
    x.row(2, 0, true);
    Due.equal("most used rises", x.count(6), 151);
  }
}

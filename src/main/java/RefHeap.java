/**
 * A heap whose objects are kept by roots. Whole collections free what no root leads to, loose
 * objects let go of what is freed, and queues tell of it. See README.md.
 */
public final class RefHeap {
  private static final int LEAST_ROOM = 600;
  private static final int MOST_ROOM = 30000;
  private static final int LEAST_YOUNG = 64;
  private static final int MOST_YOUNG = 4000;
  private static final int MOST_FIELDS = 20;
  private static final int MOST_LENGTH = 3000;
  private static final int FIXED_ROOTS = 64;
  private static final int MOST_SCOPES = 20;
  private static final int MOST_SCOPE_ROOTS = 16;

  private static final int NONE = -1;

  private static final int PLAIN = 0;
  private static final int ROW_OF_REFS = 1;
  private static final int ROW_OF_NUMBERS = 2;
  private static final int QUEUE = 3;
  private static final int SOFT = 4;
  private static final int PHANTOM = 6;
  private static final int PAIR = 7;
  private static final int LOOSE_KINDS = 3;

  private static final int HEAD_CELLS = 2;
  private static final int QUEUE_CELLS = 3;
  private static final int LOOSE_CELLS = 4;
  private static final int PAIR_CELLS = 5;

  private static final int USED = 0;
  private static final int ALIVE = 1;
  private static final int MADE = 2;
  private static final int COLLECTIONS = 3;
  private static final int CAME_TO_QUEUE = 4;
  private static final int LET_GO = 5;
  private static final int MOST_USED = 6;
  private static final int ROOTS = 7;
  private static final int HASHES = 8;
  private static final int NOT_MADE = 9;
  private static final int COUNTS = 10;

  private static final long DIGEST_START = 7;
  private static final long DIGEST_FACTOR = 31;

  private final int room;
  private final int youngLimit;
  private final Thing[] roots = new Thing[FIXED_ROOTS + MOST_SCOPES * MOST_SCOPE_ROOTS];
  private final int[] scopeStarts = new int[MOST_SCOPES];
  private final int[] counts = new int[COUNTS];
  private final Chain youngOnes = new Chain();
  private final Chain oldOnes = new Chain();
  private final Tour tour = new Tour();
  private int scopes;
  private int carryEvery;
  private int madeSinceCarried;

  public RefHeap(int room, int young) {
    this.room = Math.max(LEAST_ROOM, Math.min(MOST_ROOM, room));
    this.youngLimit = Math.max(LEAST_YOUNG, Math.min(MOST_YOUNG, young));
    counts[ROOTS] = FIXED_ROOTS;
  }

  public int plain(int i, int refs, int numbers) throws IllegalArgumentException {
    checkRoot(i);
    checkRange(refs, 0, MOST_FIELDS);
    checkRange(numbers, 0, MOST_FIELDS);
    int cells = HEAD_CELLS + refs + numbers;
    return makeRoom(cells) ? keep(i, new Holder(PLAIN, cells, refs, numbers)) : 0;
  }

  public int row(int i, int length, boolean refs) throws IllegalArgumentException {
    checkRoot(i);
    checkRange(length, 0, MOST_LENGTH);
    int cells = HEAD_CELLS + length;
    if (!makeRoom(cells)) {
      return 0;
    }
    return keep(i, refs
        ? new Holder(ROW_OF_REFS, cells, length, 0)
        : new Holder(ROW_OF_NUMBERS, cells, 0, length));
  }

  public int queue(int i) throws IllegalArgumentException {
    checkRoot(i);
    return makeRoom(QUEUE_CELLS) ? keep(i, new Line()) : 0;
  }

  public int loose(int i, int kind, int of, int q)
      throws IllegalArgumentException, IllegalStateException {
    checkRoot(i);
    checkRange(kind, 0, LOOSE_KINDS - 1);
    checkRoot(of);
    checkRootOrNone(q);
    Thing referent = objectAt(of);
    Line line = lineAtOrNone(q);
    return makeRoom(LOOSE_CELLS)
        ? keep(i, new Loose(SOFT + kind, LOOSE_CELLS, referent, null, line))
        : 0;
  }

  public int pair(int i, int of, int v, int q)
      throws IllegalArgumentException, IllegalStateException {
    checkRoot(i);
    checkRoot(of);
    checkRootOrNone(v);
    checkRootOrNone(q);
    Thing referent = objectAt(of);
    Thing value = atOrNone(v);
    Line line = lineAtOrNone(q);
    return makeRoom(PAIR_CELLS)
        ? keep(i, new Loose(PAIR, PAIR_CELLS, referent, value, line))
        : 0;
  }

  public int copy(int i, int j) throws IllegalArgumentException {
    checkRoot(i);
    checkRootOrNone(j);
    return putRoot(i, atOrNone(j));
  }

  public int link(int i, int k, int j) throws IllegalArgumentException, IllegalStateException {
    checkRoot(i);
    checkNotNegative(k);
    checkRootOrNone(j);
    Holder holder = holderOfRef(i, k);
    holder.refs[k] = atOrNone(j);
    return oneIfObject(holder.refs[k]);
  }

  public int fetch(int i, int j, int k) throws IllegalArgumentException, IllegalStateException {
    checkRoot(i);
    checkRoot(j);
    checkNotNegative(k);
    return putRoot(i, holderOfRef(j, k).refs[k]);
  }

  public long set(int i, int k, long v) throws IllegalArgumentException, IllegalStateException {
    checkRoot(i);
    checkNotNegative(k);
    Holder holder = holderOfNumber(i, k);
    long before = holder.numbers[k];
    holder.numbers[k] = v;
    return before;
  }

  public long get(int i, int k) throws IllegalArgumentException, IllegalStateException {
    checkRoot(i);
    checkNotNegative(k);
    return holderOfNumber(i, k).numbers[k];
  }

  public int referent(int i, int j, boolean value)
      throws IllegalArgumentException, IllegalStateException {
    checkRoot(i);
    checkRoot(j);
    if (value) {
      return putRoot(i, pairAt(j).value);
    }
    Loose loose = looseAt(j);
    return putRoot(i, loose.kind == PHANTOM ? null : loose.referent);
  }

  public int give(int i, int j) throws IllegalArgumentException, IllegalStateException {
    checkRoot(i);
    checkRootOrNone(j);
    Loose pair = pairAt(i);
    if (pair.referent == null) {
      return 0;
    }
    pair.value = atOrNone(j);
    return 1;
  }

  public int clear(int i, boolean told) throws IllegalArgumentException, IllegalStateException {
    checkRoot(i);
    Loose loose = looseAt(i);
    loose.forget();
    return told ? tellQueue(loose) : 0;
  }

  public int poll(int i, int j) throws IllegalArgumentException, IllegalStateException {
    checkRoot(i);
    checkRoot(j);
    return putRoot(i, lineAt(j).takeFirst());
  }

  public int waiting(int i) throws IllegalArgumentException, IllegalStateException {
    checkRoot(i);
    return lineAt(i).length;
  }

  public int kind(int i) throws IllegalArgumentException {
    checkRoot(i);
    Thing thing = roots[i];
    return thing == null ? NONE : thing.kind;
  }

  public int hash(int i) throws IllegalArgumentException {
    checkRoot(i);
    Thing thing = roots[i];
    if (thing == null) {
      return 0;
    }
    if (thing.hash == 0) {
      counts[HASHES]++;
      thing.hash = counts[HASHES];
    }
    return thing.hash;
  }

  public boolean same(int i, int j) throws IllegalArgumentException {
    checkRoot(i);
    checkRoot(j);
    return roots[i] == roots[j];
  }

  public int open(int n) throws IllegalArgumentException, IllegalStateException {
    checkRange(n, 1, MOST_SCOPE_ROOTS);
    if (scopes >= MOST_SCOPES) {
      throw new IllegalStateException("too many scopes are open");
    }
    int start = counts[ROOTS];
    scopeStarts[scopes] = start;
    scopes++;
    counts[ROOTS] = start + n;
    return start;
  }

  public int close() throws IllegalStateException {
    if (scopes <= 0) {
      throw new IllegalStateException("no scope is open");
    }
    scopes--;
    int start = scopeStarts[scopes];
    // The next scope opened here has to find its roots null.
    for (int i = start; i < counts[ROOTS]; i++) {
      roots[i] = null;
    }
    counts[ROOTS] = start;
    return start;
  }

  public int collect(boolean soft) {
    return collectWhole(soft);
  }

  public int every(int n) throws IllegalArgumentException {
    checkNotNegative(n);
    carryEvery = n;
    madeSinceCarried = 0;
    return n;
  }

  public int count(int what) throws IllegalArgumentException {
    checkRange(what, 0, COUNTS - 1);
    return counts[what];
  }

  public long digest(int i) throws IllegalArgumentException {
    checkRoot(i);
    long h = DIGEST_START;
    tour.begin();
    tour.comeTo(roots[i]);
    // The tour grows while it is walked, but takes no object twice: never more than there are.
    int left = counts[ALIVE];
    for (Thing thing = tour.first; thing != null && left > 0; thing = thing.nextOnTour) {
      h = thing.digestOn(mix(h, thing.kind), tour);
      left--;
    }
    return h;
  }

  private static long mix(long h, long part) {
    return DIGEST_FACTOR * h + part;
  }

  private static int oneIfObject(Thing thing) {
    return thing == null ? 0 : 1;
  }

  private static void checkRange(int x, int least, int most) {
    if (x < least || x > most) {
      throw new IllegalArgumentException("a number is out of its range");
    }
  }

  private static void checkNotNegative(int k) {
    if (k < 0) {
      throw new IllegalArgumentException("a number is below 0");
    }
  }

  private void checkRoot(int i) {
    checkRange(i, 0, counts[ROOTS] - 1);
  }

  private void checkRootOrNone(int i) {
    checkRange(i, NONE, counts[ROOTS] - 1);
  }

  private Thing atOrNone(int i) {
    return i == NONE ? null : roots[i];
  }

  private int putRoot(int i, Thing thing) {
    roots[i] = thing;
    return oneIfObject(thing);
  }

  private Thing objectAt(int i) {
    Thing thing = roots[i];
    if (thing == null) {
      throw new IllegalStateException("the root is null");
    }
    return thing;
  }

  private Line lineAt(int i) {
    if (roots[i] instanceof Line line) {
      return line;
    }
    throw new IllegalStateException("the root is no queue");
  }

  private Line lineAtOrNone(int i) {
    return i == NONE ? null : lineAt(i);
  }

  private Loose looseAt(int i) {
    if (roots[i] instanceof Loose loose) {
      return loose;
    }
    throw new IllegalStateException("the root is no loose object");
  }

  private Loose pairAt(int i) {
    Loose loose = looseAt(i);
    if (loose.kind != PAIR) {
      throw new IllegalStateException("the root is no pair");
    }
    return loose;
  }

  private Holder holderAt(int i) {
    if (roots[i] instanceof Holder holder) {
      return holder;
    }
    throw new IllegalStateException("the root is neither plain nor a row");
  }

  private Holder holderOfRef(int i, int k) {
    Holder holder = holderAt(i);
    if (k >= holder.refs.length) {
      throw new IllegalStateException("there is no such ref");
    }
    return holder;
  }

  private Holder holderOfNumber(int i, int k) {
    Holder holder = holderAt(i);
    if (k >= holder.numbers.length) {
      throw new IllegalStateException("there is no such number");
    }
    return holder;
  }

  private boolean fits(int cells) {
    return counts[USED] + cells <= room;
  }

  private boolean makeRoom(int cells) {
    if (!fits(cells)) {
      collectWhole(false);
    }
    if (!fits(cells)) {
      collectWhole(true);
    }
    if (!fits(cells)) {
      counts[NOT_MADE]++;
      return false;
    }
    return true;
  }

  private int keep(int i, Thing thing) {
    counts[MADE]++;
    counts[ALIVE]++;
    counts[USED] += thing.cells;
    counts[MOST_USED] = Math.max(counts[MOST_USED], counts[USED]);
    roots[i] = thing;
    youngOnes.add(thing);
    madeSinceCarried++;
    if (isCarryDue()) {
      carryOver();
      madeSinceCarried = 0;
    }
    return thing.cells;
  }

  private boolean isCarryDue() {
    return carryEvery == 0 ? youngOnes.cells >= youngLimit : madeSinceCarried >= carryEvery;
  }

  private void carryOver() {
    oldOnes.takeAll(youngOnes);
  }

  private int collectWhole(boolean soft) {
    counts[COLLECTIONS]++;
    // With all in one chain, in the order of making, a single walk meets loose ones by rank.
    carryOver();
    reachFromRoots(soft);
    letGoOfUnreached();
    return freeUnreached();
  }

  private void reachFromRoots(boolean soft) {
    tour.begin();
    for (int i = 0; i < counts[ROOTS]; i++) {
      tour.comeTo(roots[i]);
    }
    // As in digest, the tour grows while it is walked.
    int left = counts[ALIVE];
    for (Thing thing = tour.first; thing != null && left > 0; thing = thing.nextOnTour) {
      thing.leadOn(tour, soft);
      thing.leadOnAsKey(tour);
      left--;
    }
  }

  private void letGoOfUnreached() {
    for (Thing thing = oldOnes.first; thing != null; thing = thing.nextMade) {
      if (thing instanceof Loose loose && tour.has(loose) && loose.refersOutside(tour)) {
        loose.forget();
        counts[LET_GO]++;
        tellQueue(loose);
      }
    }
  }

  private int freeUnreached() {
    int usedBefore = counts[USED];
    Thing thing = oldOnes.first;
    oldOnes.empty();
    while (thing != null) {
      Thing next = thing.nextMade;
      if (tour.has(thing)) {
        oldOnes.add(thing);
      }
      thing = next;
    }
    counts[ALIVE] = oldOnes.length;
    counts[USED] = oldOnes.cells;
    return usedBefore - oldOnes.cells;
  }

  private int tellQueue(Loose loose) {
    if (loose.line == null || loose.came) {
      return 0;
    }
    loose.came = true;
    loose.line.add(loose);
    counts[CAME_TO_QUEUE]++;
    return 1;
  }

  /** An object of the heap, of whatever kind. */
  private abstract static class Thing {
    final int kind;
    final int cells;
    int hash;
    Thing nextMade;
    int tourNumber;
    int place;
    Thing nextOnTour;
    // Reached pairs whose referent this is, while it is not reached itself: should it be later,
    // it brings their values, and no pair has to be looked at again and again.
    Loose firstPair;

    Thing(int kind, int cells) {
      this.kind = kind;
      this.cells = cells;
    }

    /** Brings all on the tour that this one keeps by itself. */
    abstract void leadOn(Tour tour, boolean soft);

    /** Mixes in refs and numbers; kinds without them count none of both. */
    long digestOn(long h, Tour tour) {
      return mix(mix(h, 0), 0);
    }

    /** Brings the values of the pairs that were reached ahead of this one, their referent. */
    final void leadOnAsKey(Tour tour) {
      for (Loose pair = firstPair; pair != null; pair = pair.nextPair) {
        tour.comeTo(pair.value);
      }
      firstPair = null;
    }
  }

  /** A plain object or a row. */
  private static final class Holder extends Thing {
    final Thing[] refs;
    final long[] numbers;

    Holder(int kind, int cells, int refs, int numbers) {
      super(kind, cells);
      this.refs = new Thing[refs];
      this.numbers = new long[numbers];
    }

    void leadOn(Tour tour, boolean soft) {
      for (Thing ref : refs) {
        tour.comeTo(ref);
      }
    }

    long digestOn(long h, Tour tour) {
      long mixed = mix(h, refs.length);
      for (Thing ref : refs) {
        tour.comeTo(ref);
        mixed = mix(mixed, ref == null ? 0 : ref.place);
      }
      mixed = mix(mixed, numbers.length);
      for (long number : numbers) {
        mixed = mix(mixed, number);
      }
      return mixed;
    }
  }

  /** A queue: a chain through the loose ones, as each of them comes to a queue once at most. */
  private static final class Line extends Thing {
    Loose first;
    Loose last;
    int length;

    Line() {
      super(QUEUE, QUEUE_CELLS);
    }

    void add(Loose loose) {
      if (last == null) {
        first = loose;
      } else {
        last.nextInLine = loose;
      }
      last = loose;
      length++;
    }

    /** The first one, or null if there is none. */
    Loose takeFirst() {
      Loose taken = first;
      if (taken == null) {
        return null;
      }
      first = taken.nextInLine;
      taken.nextInLine = null;
      if (first == null) {
        last = null;
      }
      length--;
      return taken;
    }

    void leadOn(Tour tour, boolean soft) {
      for (Loose loose = first; loose != null; loose = loose.nextInLine) {
        tour.comeTo(loose);
      }
    }
  }

  /** A soft, weak or phantom object or a pair. */
  private static final class Loose extends Thing {
    Thing referent;
    Thing value;
    final Line line;
    boolean came;
    Loose nextInLine;
    Loose nextPair;

    Loose(int kind, int cells, Thing referent, Thing value, Line line) {
      super(kind, cells);
      this.referent = referent;
      this.value = value;
      this.line = line;
    }

    void forget() {
      referent = null;
      value = null;
    }

    boolean refersOutside(Tour tour) {
      return referent != null && !tour.has(referent);
    }

    void leadOn(Tour tour, boolean soft) {
      if (!came) {
        tour.comeTo(line);
      }
      if (kind == SOFT && !soft) {
        tour.comeTo(referent);
      }
      if (kind == PAIR && referent != null) {
        if (tour.has(referent)) {
          tour.comeTo(value);
        } else {
          nextPair = referent.firstPair;
          referent.firstPair = this;
        }
      }
    }
  }

  /** Objects in the order in which they were made. */
  private static final class Chain {
    Thing first;
    Thing last;
    int length;
    int cells;

    void add(Thing thing) {
      thing.nextMade = null;
      if (last == null) {
        first = thing;
      } else {
        last.nextMade = thing;
      }
      last = thing;
      length++;
      cells += thing.cells;
    }

    void takeAll(Chain other) {
      if (other.first == null) {
        return;
      }
      if (last == null) {
        first = other.first;
      } else {
        last.nextMade = other.first;
      }
      last = other.last;
      length += other.length;
      cells += other.cells;
      other.empty();
    }

    void empty() {
      first = null;
      last = null;
      length = 0;
      cells = 0;
    }
  }

  /** Objects in the order in which they are first come to; used again, so that it makes nothing. */
  private static final class Tour {
    Thing first;
    Thing last;
    int length;
    int number;

    void begin() {
      first = null;
      last = null;
      length = 0;
      number++;
    }

    boolean has(Thing thing) {
      return thing.tourNumber == number;
    }

    void comeTo(Thing thing) {
      if (thing == null || has(thing)) {
        return;
      }
      thing.tourNumber = number;
      thing.nextOnTour = null;
      if (last == null) {
        first = thing;
      } else {
        last.nextOnTour = thing;
      }
      last = thing;
      length++;
      thing.place = length;
    }
  }
}

import java.util.ArrayList;
import java.util.Arrays;
import java.util.HashSet;
import java.util.List;
import java.util.Random;
import java.util.Set;

/** All promises: random runs of calls, each answer compared with that of a plainer heap. */
public final class ModelTest {
  private static final int RUNS = 3000;
  private static final int CALLS = 430;
  private static final String[] NAMES = {
    "plain", "row", "queue", "loose", "pair", "copy", "link", "fetch", "set", "get", "referent",
    "give", "clear", "poll", "waiting", "kind", "hash", "same", "open", "close", "collect",
    "every", "count", "digest"
  };
  private static final int[] OFTEN = {
    9, 3, 3, 12, 8, 12, 12, 5, 4, 2, 4, 4, 2, 5, 2, 2, 3, 2, 2, 2, 2, 1, 6, 3
  };

  public static void main(String[] args) {
    int wrong = 0;
    for (int seed = 0; seed < RUNS && wrong < 5; seed++) {
      wrong += play(seed) ? 0 : 1;
    }
    Due.equal("runs with a wrong answer", wrong, 0);
    Due.finish();
  }

  private static boolean play(int seed) {
    Random random = new Random(seed);
    int room = random.nextInt(4) == 0 ? 600 + random.nextInt(2000) : 600 + random.nextInt(60);
    RefHeap heap = new RefHeap(room, 64 + random.nextInt(100));
    Model model = new Model(room);
    int roots = 3 + random.nextInt(12);
    List<String> told = new ArrayList<>();
    for (int n = 0; n < CALLS; n++) {
      int what = pick(random);
      int[] a = arguments(random, what, roots);
      if (!agree(heap, model, what, a, told)) {
        return false;
      }
    }
    for (int what = 0; what < 10; what++) {
      if (!agree(heap, model, 22, new int[] {what, 0, 0, 0}, told)) {
        return false;
      }
    }
    for (int i = 0; i < 64; i++) {
      if (!agree(heap, model, 23, new int[] {i, 0, 0, 0}, told)) {
        return false;
      }
    }
    return true;
  }

  private static boolean agree(RefHeap heap, Model model, int what, int[] a, List<String> told) {
    String got = Due.outcome(() -> call(heap, what, a));
    String want = Due.outcome(() -> model.call(NAMES[what], a));
    told.add(NAMES[what] + Arrays.toString(a) + " " + got);
    if (got.equals(want)) {
      return true;
    }
    told.forEach(System.out::println);
    Due.text("the last call", got, want);
    return false;
  }

  private static int pick(Random random) {
    int left = random.nextInt(Arrays.stream(OFTEN).sum());
    int what = 0;
    while (left >= OFTEN[what]) {
      left -= OFTEN[what];
      what++;
    }
    return what;
  }

  /** Four arguments, mostly roots; a call takes as many of them as it has. */
  private static int[] arguments(Random random, int what, int roots) {
    int[] a = new int[4];
    for (int n = 0; n < 4; n++) {
      a[n] = root(random, roots);
    }
    switch (NAMES[what]) {
      case "plain" -> {
        a[1] = few(random, 20);
        a[2] = few(random, 20);
      }
      case "row" -> a[1] = random.nextInt(12) == 0 ? random.nextInt(3003) - 1 : random.nextInt(60);
      case "loose" -> a[1] = random.nextInt(30) == 0 ? random.nextInt(6) - 2 : random.nextInt(3);
      case "link", "set", "get" -> a[1] = few(random, 3);
      case "fetch" -> a[2] = few(random, 3);
      case "open" -> a[0] = random.nextInt(8) == 0 ? random.nextInt(20) - 1 : 1 + random.nextInt(3);
      case "every" -> a[0] = random.nextInt(6) - 1;
      case "count" -> a[0] = random.nextInt(30) == 0 ? random.nextInt(20) - 5 : random.nextInt(10);
      default -> { }
    }
    return a;
  }

  private static int few(Random random, int most) {
    return random.nextInt(15) == 0 ? random.nextInt(most + 3) - 1 : random.nextInt(3);
  }

  private static int root(Random random, int roots) {
    int chance = random.nextInt(40);
    if (chance == 0) {
      int[] odd = {Integer.MIN_VALUE, Integer.MAX_VALUE, -2, 63, 64, 383, 384};
      return odd[random.nextInt(odd.length)];
    }
    if (chance < 4) {
      return 62 + random.nextInt(6);
    }
    return chance < 9 ? -1 : random.nextInt(roots);
  }

  private static boolean odd(int x) {
    return (x & 1) != 0;
  }

  private static long call(RefHeap x, int what, int[] a) {
    return switch (NAMES[what]) {
      case "plain" -> x.plain(a[0], a[1], a[2]);
      case "row" -> x.row(a[0], a[1], odd(a[2]));
      case "queue" -> x.queue(a[0]);
      case "loose" -> x.loose(a[0], a[1], a[2], a[3]);
      case "pair" -> x.pair(a[0], a[1], a[2], a[3]);
      case "copy" -> x.copy(a[0], a[1]);
      case "link" -> x.link(a[0], a[1], a[2]);
      case "fetch" -> x.fetch(a[0], a[1], a[2]);
      case "set" -> x.set(a[0], a[1], a[2] * 0x123456789abL);
      case "get" -> x.get(a[0], a[1]);
      case "referent" -> x.referent(a[0], a[1], odd(a[2]));
      case "give" -> x.give(a[0], a[1]);
      case "clear" -> x.clear(a[0], odd(a[1]));
      case "poll" -> x.poll(a[0], a[1]);
      case "waiting" -> x.waiting(a[0]);
      case "kind" -> x.kind(a[0]);
      case "hash" -> x.hash(a[0]);
      case "same" -> x.same(a[0], a[1]) ? 1 : 0;
      case "open" -> x.open(a[0]);
      case "close" -> x.close();
      case "collect" -> x.collect(odd(a[0]));
      case "every" -> x.every(a[0]);
      case "count" -> x.count(a[0]);
      case "digest" -> x.digest(a[0]);
      default -> throw new AssertionError(NAMES[what]);
    };
  }

  /** One object of the plainer heap; it has every field, used or not. */
  private static final class Node {
    int kind;
    int cells;
    Node[] refs = {};
    long[] numbers = {};
    List<Node> waiting = new ArrayList<>();
    Node referent;
    Node value;
    Node queue;
    boolean came;
    int hash;
  }

  /** The document's words as they stand, without a thought for speed. */
  private static final class Model {
    private final int room;
    private final List<Node> nodes = new ArrayList<>();
    private final List<Node> roots = new ArrayList<>();
    private final List<Integer> scopes = new ArrayList<>();
    private final int[] counts = new int[10];

    Model(int room) {
      this.room = room;
      for (int i = 0; i < 64; i++) {
        roots.add(null);
      }
    }

    long call(String name, int[] a) {
      return switch (name) {
        case "plain", "row", "queue", "loose", "pair" -> make(name, a);
        case "copy" -> {
          bad(!root(a[0]) || !rootOrNone(a[1]));
          yield put(a[0], at(a[1]));
        }
        case "link", "fetch", "set", "get" -> field(name, a);
        case "referent", "give", "clear", "poll", "waiting" -> loose(name, a);
        case "kind", "hash", "same", "digest" -> look(name, a);
        case "open", "close" -> scope(name, a[0]);
        case "collect" -> collect(odd(a[0]));
        case "every" -> {
          bad(a[0] < 0);
          yield a[0];
        }
        default -> {
          bad(a[0] < 0 || a[0] > 9);
          yield count(a[0]);
        }
      };
    }

    private static void bad(boolean really) {
      if (really) {
        throw new IllegalArgumentException();
      }
    }

    private static void state(boolean really) {
      if (really) {
        throw new IllegalStateException();
      }
    }

    private boolean root(int i) {
      return i >= 0 && i < roots.size();
    }

    private boolean rootOrNone(int i) {
      return i == -1 || root(i);
    }

    private Node at(int i) {
      return i == -1 ? null : roots.get(i);
    }

    private long put(int i, Node node) {
      roots.set(i, node);
      return node == null ? 0 : 1;
    }

    private static int kindOf(Node node) {
      return node == null ? -1 : node.kind;
    }

    private long count(int what) {
      return switch (what) {
        case 0 -> nodes.stream().mapToInt(node -> node.cells).sum();
        case 1 -> nodes.size();
        case 7 -> roots.size();
        default -> counts[what];
      };
    }

    private long make(String name, int[] a) {
      bad(!root(a[0]));
      Node made = new Node();
      switch (name) {
        case "plain" -> {
          bad(a[1] < 0 || a[1] > 20 || a[2] < 0 || a[2] > 20);
          made.refs = new Node[a[1]];
          made.numbers = new long[a[2]];
          made.cells = 2 + a[1] + a[2];
        }
        case "row" -> {
          bad(a[1] < 0 || a[1] > 3000);
          made.kind = odd(a[2]) ? 1 : 2;
          made.refs = new Node[odd(a[2]) ? a[1] : 0];
          made.numbers = new long[odd(a[2]) ? 0 : a[1]];
          made.cells = 2 + a[1];
        }
        case "queue" -> {
          made.kind = 3;
          made.cells = 3;
        }
        case "loose" -> {
          bad(a[1] < 0 || a[1] > 2);
          fill(made, 4 + a[1], 4, a[2], -1, a[3]);
        }
        default -> fill(made, 7, 5, a[1], a[2], a[3]);
      }
      return admit(a[0], made);
    }

    private void fill(Node made, int kind, int cells, int of, int v, int q) {
      bad(!root(of) || !rootOrNone(v) || !rootOrNone(q));
      state(at(of) == null || q != -1 && kindOf(at(q)) != 3);
      made.kind = kind;
      made.cells = cells;
      made.referent = at(of);
      made.value = at(v);
      made.queue = at(q);
    }

    private long admit(int i, Node made) {
      if (count(0) + made.cells > room) {
        collect(false);
      }
      if (count(0) + made.cells > room) {
        collect(true);
      }
      if (count(0) + made.cells > room) {
        counts[9]++;
        return 0;
      }
      nodes.add(made);
      counts[2]++;
      counts[6] = Math.max(counts[6], (int) count(0));
      roots.set(i, made);
      return made.cells;
    }

    private long field(String name, int[] a) {
      boolean fetching = name.equals("fetch");
      int from = fetching ? a[1] : a[0];
      int k = fetching ? a[2] : a[1];
      bad(!root(a[0]) || !root(from) || k < 0 || name.equals("link") && !rootOrNone(a[2]));
      Node node = at(from);
      boolean number = name.equals("set") || name.equals("get");
      state(node == null || k >= (number ? node.numbers.length : node.refs.length));
      switch (name) {
        case "link":
          node.refs[k] = at(a[2]);
          return at(a[2]) == null ? 0 : 1;
        case "fetch":
          return put(a[0], node.refs[k]);
        default:
          long was = node.numbers[k];
          if (name.equals("set")) {
            node.numbers[k] = a[2] * 0x123456789abL;
          }
          return was;
      }
    }

    private long loose(String name, int[] a) {
      bad(!root(a[0]));
      switch (name) {
        case "referent":
          bad(!root(a[1]));
          state(odd(a[2]) ? kindOf(at(a[1])) != 7 : kindOf(at(a[1])) < 4);
          Node of = at(a[1]);
          return put(a[0], odd(a[2]) ? of.value : of.kind == 6 ? null : of.referent);
        case "give":
          bad(!rootOrNone(a[1]));
          state(kindOf(at(a[0])) != 7);
          if (at(a[0]).referent == null) {
            return 0;
          }
          at(a[0]).value = at(a[1]);
          return 1;
        case "clear":
          state(kindOf(at(a[0])) < 4);
          return letGo(at(a[0]), odd(a[1]));
        case "poll":
          bad(!root(a[1]));
          state(kindOf(at(a[1])) != 3);
          List<Node> line = at(a[1]).waiting;
          return put(a[0], line.isEmpty() ? null : line.remove(0));
        default:
          state(kindOf(at(a[0])) != 3);
          return at(a[0]).waiting.size();
      }
    }

    private long letGo(Node node, boolean told) {
      node.referent = null;
      node.value = null;
      if (!told || node.queue == null || node.came) {
        return 0;
      }
      node.came = true;
      node.queue.waiting.add(node);
      counts[4]++;
      return 1;
    }

    private long look(String name, int[] a) {
      bad(!root(a[0]));
      Node node = at(a[0]);
      switch (name) {
        case "kind":
          return kindOf(node);
        case "same":
          bad(!root(a[1]));
          return node == at(a[1]) ? 1 : 0;
        case "digest":
          return digest(node);
        default:
          if (node == null) {
            return 0;
          }
          if (node.hash == 0) {
            node.hash = ++counts[8];
          }
          return node.hash;
      }
    }

    private static long digest(Node start) {
      List<Node> order = new ArrayList<>();
      if (start != null) {
        order.add(start);
      }
      for (int n = 0; n < order.size(); n++) {
        for (Node ref : order.get(n).refs) {
          if (ref != null && !order.contains(ref)) {
            order.add(ref);
          }
        }
      }
      List<Long> parts = new ArrayList<>();
      for (Node node : order) {
        parts.add((long) node.kind);
        parts.add((long) node.refs.length);
        for (Node ref : node.refs) {
          parts.add(order.indexOf(ref) + 1L);
        }
        parts.add((long) node.numbers.length);
        for (long number : node.numbers) {
          parts.add(number);
        }
      }
      return parts.stream().reduce(7L, (h, part) -> 31 * h + part);
    }

    private long scope(String name, int n) {
      if (name.equals("open")) {
        bad(n < 1 || n > 16);
        state(scopes.size() == 20);
        scopes.add(n);
        for (int i = 0; i < n; i++) {
          roots.add(null);
        }
        return roots.size() - n;
      }
      state(scopes.isEmpty());
      int left = roots.size() - scopes.remove(scopes.size() - 1);
      while (roots.size() > left) {
        roots.remove(left);
      }
      return left;
    }

    private long collect(boolean soft) {
      counts[3]++;
      Set<Node> reached = reached(soft);
      List<Node> going = new ArrayList<>();
      for (Node node : nodes) {
        if (reached.contains(node) && node.referent != null && !reached.contains(node.referent)) {
          going.add(node);
        }
      }
      for (Node node : going) {
        counts[5]++;
        letGo(node, true);
      }
      long before = count(0);
      nodes.removeIf(node -> !reached.contains(node));
      return before - count(0);
    }

    private Set<Node> reached(boolean soft) {
      Set<Node> reached = new HashSet<>(roots);
      int size;
      do {
        size = reached.size();
        for (Node node : nodes) {
          if (reached.contains(node)) {
            reached.addAll(Arrays.asList(node.refs));
            reached.addAll(node.waiting);
            if (node.kind == 4 && !soft) {
              reached.add(node.referent);
            }
            if (!node.came) {
              reached.add(node.queue);
            }
            if (node.kind == 7 && node.referent != null && reached.contains(node.referent)) {
              reached.add(node.value);
            }
          }
        }
      } while (reached.size() > size);
      return reached;
    }
  }
}

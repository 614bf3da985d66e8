import java.util.Random;

/** Long runs of calls, drawn with fixed seeds, on the class and on the model at once. */
public final class ModelTest {
  private static final int[] EDGES = {Integer.MIN_VALUE, Integer.MIN_VALUE + 1, -3, -2, -1, 0, 1, 2, 3, 4, 7, 8, 9,
    39, 40, 59, 60, 61, 255, 256, 40319, 40320, 65536, Integer.MAX_VALUE - 1, Integer.MAX_VALUE};

  private static int wrong = 0;
  private static String log = "";

  private static void same(String call, long got, long want) {
    log += call + " -> " + got + "\n";
    if (got == want) return;
    wrong++;
    if (wrong <= 5) System.out.println("a run:\n" + log + "due is " + want + "\n");
  }

  private static int draw(Random r, int low, int high) {
    if (r.nextInt(25) == 0) return EDGES[r.nextInt(EDGES.length)];
    return low + r.nextInt(high - low + 1);
  }

  /** Sets that most rows can have come more often than by pure chance. */
  private static int drawSet(Random r, int n) {
    if (r.nextInt(25) == 0) return EDGES[r.nextInt(EDGES.length)];
    if (r.nextInt(3) == 0) return r.nextInt(256);
    int from = r.nextInt(n), size = 2 + r.nextInt(n);
    int set = 0;
    for (int t = from; t < from + size && t < n; t++) set |= 1 << t;
    return set;
  }

  private static void tell(Random r, OrderTrees x, Model m) {
    same("wipe()", x.wipe(), m.wipe());
    int n = m.count(0);
    int i = r.nextInt((int) m.many());
    boolean permitted = r.nextInt(3) > 0;
    int used = 0;
    for (int place = 0; place < n; place++) {
      int thing = permitted ? m.row(i, place) : r.nextInt(n);
      while (!permitted && (used >> thing & 1) != 0) thing = r.nextInt(n);
      used |= 1 << thing;
      same("type(" + ('a' + thing) + ")", x.type('a' + thing), m.type('a' + thing));
    }
    same("fault()", x.fault(), m.fault());
    same("misses()", x.misses(), m.misses());
    same("number()", x.number(), m.number());
  }

  private static void arrangement(Random r, OrderTrees x, Model m) {
    int n = m.count(0);
    switch (r.nextInt(20)) {
      case 0 -> { int a = draw(r, 0, 9); same("things(" + a + ")", x.things(a), m.things(a)); }
      case 1, 2, 3, 4, 5, 6 -> { int a = drawSet(r, n); same("group(" + a + ")", x.group(a), m.group(a)); }
      case 7, 8 -> same("back()", x.back(), m.back());
      case 9 -> { int a = draw(r, -1, 10); same("taken(" + a + ")", x.taken(a), m.taken(a)); }
      case 10 -> { int a = draw(r, -1, 10); same("reason(" + a + ")", x.reason(a), m.reason(a)); }
      case 11 -> same("many()", x.many(), m.many());
      case 12 -> { int a = draw(r, -2, 40); same("tree(" + a + ")", x.tree(a), m.tree(a)); }
      case 13 -> { int a = draw(r, -1, 7), b = draw(r, -1, 3);
        same("node(" + a + ", " + b + ")", x.node(a, b), m.node(a, b)); }
      case 14 -> { int a = draw(r, 0, (int) Math.min(40319, m.many() + 2)), b = draw(r, -1, 8);
        same("row(" + a + ", " + b + ")", x.row(a, b), m.row(a, b)); }
      case 15 -> { int a = drawSet(r, n); same("may(" + a + ")", x.may(a), m.may(a)); }
      case 16 -> { int a = drawSet(r, n); same("must(" + a + ")", x.must(a), m.must(a)); }
      case 17 -> { int a = draw(r, -1, 8), b = draw(r, -1, 8), c = draw(r, 0, 1);
        same("apart(" + a + ", " + b + ", " + c + ")", x.apart(a, b, c), m.apart(a, b, c)); }
      case 18 -> same("spare()", x.spare(), m.spare());
      default -> tell(r, x, m);
    }
  }

  private static void text(Random r, OrderTrees x, Model m) {
    switch (r.nextInt(8)) {
      case 0, 1, 2 -> { int a = draw(r, 'a', 'i'); same("type(" + a + ")", x.type(a), m.type(a)); }
      case 3 -> { if (r.nextInt(4) == 0) same("wipe()", x.wipe(), m.wipe()); }
      case 4 -> same("undo()", x.undo(), m.undo());
      case 5 -> same("fault()", x.fault(), m.fault());
      case 6 -> same("misses()", x.misses(), m.misses());
      default -> same("number()", x.number(), m.number());
    }
  }

  private static void sheets(Random r, OrderTrees x, Model m) {
    int a = draw(r, 0, 3), b = draw(r, 0, 3), c = draw(r, 0, 8), d = draw(r, 0, 8);
    int form = draw(r, 0, 2);
    switch (r.nextInt(9)) {
      case 0 -> { int n = draw(r, -1, 12); same("sheet(" + a + ", " + form + ", " + n + ")", x.sheet(a, form, n), m.sheet(a, form, n)); }
      case 1 -> { if (r.nextInt(3) == 0) same("lose(" + a + ")", x.lose(a), m.lose(a)); }
      case 2, 3 -> { int v = r.nextInt(4) == 0 ? r.nextInt() : drawSet(r, 8);
        same("put(" + a + ", " + form + ", " + c + ", " + v + ")", x.put(a, form, c, v), m.put(a, form, c, v)); }
      case 4 -> same("get(" + a + ", " + form + ", " + c + ")", x.get(a, form, c), m.get(a, form, c));
      case 5 -> { int n = draw(r, 0, 6);
        same("copy(" + a + ", " + c + ", " + b + ", " + d + ", " + n + ")", x.copy(a, c, b, d, n), m.copy(a, c, b, d, n)); }
      case 6 -> { int i = draw(r, 0, (int) Math.min(40319, m.many() + 1));
        same("write(" + i + ", " + a + ")", x.write(i, a), m.write(i, a)); }
      case 7 -> same("read(" + a + ")", x.read(a), m.read(a));
      default -> { int what = draw(r, -1, 9); same("count(" + what + ")", x.count(what), m.count(what)); }
    }
  }

  private static void whole(OrderTrees x, Model m) {
    same("digest()", x.digest(), m.digest());
    same("count(8)", x.count(8), m.count(8));
    for (int s = 0; s < 4; s++) for (int form = 0; form < 3; form++) for (int i = 0; i < 13; i++) {
      same("get(" + s + ", " + form + ", " + i + ")", x.get(s, form, i), m.get(s, form, i));
      same("count(8)", x.count(8), m.count(8));
    }
  }

  private static void run(int seed) {
    Random r = new Random(seed);
    OrderTrees x = new OrderTrees();
    Model m = new Model();
    log = "seed " + seed + "\n";
    int n = 1 + r.nextInt(8);
    if (r.nextInt(4) > 0) same("things(" + n + ")", x.things(n), m.things(n));
    int calls = 20 + r.nextInt(100);
    int kind = r.nextInt(4);
    for (int i = 0; i < calls && wrong == 0; i++) {
      int which = kind == 3 ? r.nextInt(3) : r.nextInt(8) == 0 ? r.nextInt(3) : kind;
      if (which == 0) arrangement(r, x, m);
      else if (which == 1) text(r, x, m);
      else sheets(r, x, m);
    }
    whole(x, m);
  }

  public static void main(String[] args) {
    int runs = args.length > 0 ? Integer.parseInt(args[0]) : 1500;
    for (int seed = 0; seed < runs && wrong == 0; seed++) run(seed);
    System.out.println(wrong == 0 ? runs + " runs are as the model has them" : wrong + " answers are not as the model has them");
    if (wrong != 0) System.exit(1);
  }
}

import java.util.ArrayDeque;
import java.util.Arrays;
import java.util.Deque;
import java.util.HashSet;
import java.util.Random;
import java.util.Set;

/** Trees, rows and reasons of many lists of groups, held whole against the model. */
public final class TreeTest {
  private static int wrong = 0;

  private static void same(String what, long got, long want) {
    if (got == want) return;
    wrong++;
    if (wrong <= 10) System.out.println(what + " answered " + got + ", due is " + want);
  }

  private static void hold(String told, OrderTrees x, Model m) {
    int n = m.count(0);
    same(told + " digest()", x.digest(), m.digest());
    same(told + " many()", x.many(), m.many());
    for (int i = -1; i < 40; i++) same(told + " tree(" + i + ")", x.tree(i), m.tree(i));
    for (int set = 0; set < 1 << n; set++) {
      same(told + " may(" + set + ")", x.may(set), m.may(set));
      same(told + " must(" + set + ")", x.must(set), m.must(set));
    }
    int rows = (int) Math.min(m.many(), 130);
    for (int i = 0; i <= rows; i++) for (int p = 0; p < 8; p++) same(told + " row(" + i + ", " + p + ")", x.row(i, p), m.row(i, p));
  }

  /** All lists of two and three groups of four things, and of two groups of five. */
  private static void smallOnes() {
    for (int a = 3; a < 16; a++) for (int b = 3; b < 16; b++) for (int c = 3; c < 16; c++) {
      if (Integer.bitCount(a) < 2 || Integer.bitCount(b) < 2 || Integer.bitCount(c) < 2) continue;
      list(4, a, b, c);
    }
    for (int a = 3; a < 32; a++) for (int b = 3; b < 32; b++) {
      if (Integer.bitCount(a) > 1 && Integer.bitCount(b) > 1) list(5, a, b);
    }
  }

  private static void list(int n, int... sets) {
    OrderTrees x = new OrderTrees();
    Model m = new Model();
    same("things", x.things(n), m.things(n));
    StringBuilder told = new StringBuilder("things(" + n + ")");
    for (int set : sets) {
      told.append(" group(").append(set).append(")");
      same(told.toString(), x.group(set), m.group(set));
    }
    hold(told.toString(), x, m);
  }

  /**
   * From every tree that there is of so many things, by every group, to the next one. How many there
   * are can be counted without drawing one: by the parts of the first node, and the trees of each.
   */
  private static void allTrees(int n, int due) {
    Set<String> seen = new HashSet<>();
    Deque<int[]> left = new ArrayDeque<>();
    left.add(new int[0]);
    seen.add(told(n).text());
    while (!left.isEmpty() && wrong == 0) {
      int[] sets = left.remove();
      Model m = told(n, sets);
      for (int set = 3; set < 1 << n; set++) {
        if (Integer.bitCount(set) < 2) continue;
        OrderTrees x = new OrderTrees();
        x.things(n);
        for (int each : sets) x.group(each);
        String call = n + " things, groups " + Arrays.toString(sets) + ", group(" + set + ")";
        same(call, x.group(set), m.group(set));
        same(call + " many()", x.many(), m.many());
        for (int i = -1; i < 22; i++) same(call + " tree(" + i + ")", x.tree(i), m.tree(i));
        if (seen.add(m.text())) {
          int[] more = Arrays.copyOf(sets, sets.length + 1);
          more[sets.length] = set;
          left.add(more);
        }
        same(call + " back()", x.back(), m.back());
      }
    }
    same("how many trees of " + n + " things there are", seen.size(), due);
  }

  private static Model told(int n, int... sets) {
    Model m = new Model();
    m.things(n);
    for (int set : sets) m.group(set);
    return m;
  }

  /** Groups that some hidden row has, so that all are taken and trees grow deep; or any at all. */
  private static void bigOnes(int lists) {
    Random r = new Random(4711);
    for (int k = 0; k < lists && wrong == 0; k++) {
      int n = 5 + r.nextInt(4);
      int[] row = new int[n];
      for (int i = 0; i < n; i++) {
        int j = r.nextInt(i + 1);
        row[i] = row[j];
        row[j] = i;
      }
      int[] sets = new int[1 + r.nextInt(10)];
      for (int g = 0; g < sets.length; g++) {
        int from = r.nextInt(n - 1), size = 2 + r.nextInt(n - from - 1);
        for (int i = from; i < from + size; i++) sets[g] |= 1 << row[i];
        if (r.nextInt(6) == 0) sets[g] = 3 << r.nextInt(7) | r.nextInt(256);
      }
      list(n, sets);
    }
  }

  public static void main(String[] args) {
    int[] trees = {1, 1, 7, 68, 941, 16657, 360151};
    int mostThings = args.length > 1 ? Integer.parseInt(args[1]) : 5;
    for (int n = 1; n <= mostThings; n++) allTrees(n, trees[n - 1]);
    smallOnes();
    bigOnes(args.length > 0 ? Integer.parseInt(args[0]) : 400);
    System.out.println(wrong == 0 ? "all trees are as the model has them" : wrong + " answers are not as the model has them");
    if (wrong != 0) System.exit(1);
  }
}

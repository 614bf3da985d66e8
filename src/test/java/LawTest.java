import java.util.ArrayList;
import java.util.Arrays;
import java.util.HashSet;
import java.util.List;
import java.util.Random;
import java.util.Set;

/**
 * What the answers of the class must be to one another, by the document; without the model. Objects
 * are made anew for each question of many calls, for one is good for 512 of them.
 */
public final class LawTest {
  private static final int MOST_ROWS_LOOKED_AT = 150;

  private static int wrong = 0;
  private static String list = "";

  private final int n;
  private final int[] groups;

  private LawTest(int n, int[] groups) {
    this.n = n;
    this.groups = groups;
    list = n + " things, groups " + Arrays.toString(groups);
  }

  private static void check(boolean good, String law) {
    if (good) return;
    wrong++;
    if (wrong <= 10) System.out.println(list + ": not so: " + law);
  }

  private static OrderTrees made(int n, int... groups) {
    OrderTrees x = new OrderTrees();
    x.things(n);
    for (int set : groups) x.group(set);
    return x;
  }

  private OrderTrees made() { return made(n, groups); }

  private int[] without(int bits) {
    List<Integer> left = new ArrayList<>();
    for (int i = 0; i < groups.length; i++) if ((bits >> i & 1) == 0) left.add(groups[i]);
    return left.stream().mapToInt(i -> i).toArray();
  }

  private static int[] with(int[] groups, int set) {
    int[] more = Arrays.copyOf(groups, groups.length + 1);
    more[groups.length] = set;
    return more;
  }

  private int takenBits() {
    OrderTrees x = made();
    int bits = 0;
    for (int i = 0; i < groups.length; i++) bits |= x.taken(i) << i;
    return bits;
  }

  private static String shown(OrderTrees x) {
    StringBuilder text = new StringBuilder();
    for (int i = 0; i < x.tree(OrderTrees.NONE); i++) text.append((char) x.tree(i));
    return text.toString();
  }

  // ---- rows

  private void rows() {
    long many = made().many();
    int taken = takenBits();
    Set<String> seen = new HashSet<>();
    int step = (int) Math.max(1, many / MOST_ROWS_LOOKED_AT);
    int looked = 0;
    for (int i = 0; i < many; i += step) {
      OrderTrees x = made();
      StringBuilder row = new StringBuilder();
      for (int place = 0; place < n; place++) row.append((char) ('a' + x.row(i, place)));
      for (char c : row.toString().toCharArray()) x.type(c);
      check(x.fault() == OrderTrees.NONE, "row " + i + " is all things, each once: " + row);
      check(x.number() == i, "the number of row " + i + " is its own");
      check((x.misses() & taken) == 0, "row " + i + " has all that are taken");
      seen.add(row.toString());
      looked++;
    }
    check(seen.size() == looked, "no row comes twice");
    check(many == 40320 || made().row((int) many, 0) == OrderTrees.NONE, "there is no row behind the last");
    check(made().count(5) == many, "many() is count(5)");
  }

  /** The least and the greatest number of things between two, of each row as it is told. */
  private void apart() {
    long many = made().many();
    if (many > MOST_ROWS_LOOKED_AT) return;
    int[][] least = new int[n][n], greatest = new int[n][n];
    for (int[] line : least) Arrays.fill(line, n);
    for (int i = 0; i < many; i++) {
      OrderTrees x = made();
      int[] places = new int[n];
      for (int place = 0; place < n; place++) places[x.row(i, place)] = place;
      for (int a = 0; a < n; a++) for (int b = 0; b < n; b++) {
        int between = Math.abs(places[a] - places[b]) - 1;
        least[a][b] = Math.min(least[a][b], between);
        greatest[a][b] = Math.max(greatest[a][b], between);
      }
    }
    OrderTrees x = made();
    for (int a = 0; a < n; a++) for (int b = 0; b < n; b++) {
      check(x.apart(a, b, 0) == (a == b ? OrderTrees.BAD : least[a][b]), "apart(" + a + ", " + b + ", 0) by the rows");
      check(x.apart(a, b, 1) == (a == b ? OrderTrees.BAD : greatest[a][b]), "apart(" + a + ", " + b + ", 1) by the rows");
    }
  }

  // ---- the tree

  /** Nodes as they come in the text: kinds, parts, things; and how many rows it has by them. */
  private void tree() {
    OrderTrees x = made();
    String text = shown(x);
    int node = 0, turning = 0;
    long rows = 1;
    for (int at = 0; at < text.length(); at++) {
      if (Character.isLetter(text.charAt(at))) continue;
      if (text.charAt(at) == ')' || text.charAt(at) == ']') continue;
      boolean free = text.charAt(at) == '(';
      int parts = 0, things = 0, depth = 1;
      for (int in = at + 1; depth > 0; in++) {
        char c = text.charAt(in);
        if (depth == 1 && c != ')' && c != ']') parts++;
        if (Character.isLetter(c)) things |= 1 << c - 'a';
        else depth += c == '(' || c == '[' ? 1 : -1;
      }
      check(x.node(node, 0) == (free ? 0 : 1) && x.node(node, 1) == parts && x.node(node, 2) == things, "node " + node + " as it is shown in " + text);
      check(free ? parts >= 2 : parts >= 3, "so many parts a node has at least: " + text);
      node++;
      turning += free ? 0 : 1;
      rows *= 2;
      for (int k = 3; free && k <= parts; k++) rows *= k;
    }
    check(x.count(3) == node && x.count(4) == turning && x.count(6) == text.length(), "counts of the tree " + text);
    check(x.many() == rows, "so many rows has " + text);
  }

  private void order() {
    int[] taken = without(~takenBits());
    String text = shown(made());
    int[] turned = taken.clone();
    for (int i = 0; i < taken.length; i++) turned[i] = taken[taken.length - 1 - i];
    check(shown(made(n, taken)).equals(text), "refused groups change no tree");
    check(shown(made(n, turned)).equals(text), "there is just one tree, in whatever order the groups come");
  }

  // ---- groups

  private void reasons() {
    OrderTrees x = made();
    for (int i = 0; i < groups.length; i++) {
      int bits = x.reason(i);
      check((bits == OrderTrees.NOT) == (x.taken(i) == 1), "reason(" + i + ") is NOT, if it is taken");
      if (bits < 0) continue;
      check(bits != 0 && (bits & ~takenBits()) == 0 && bits < 1 << i, "reason(" + i + ") has taken ones ahead of it alone");
      int[] refusing = without(~bits);
      OrderTrees all = made(n, with(refusing, groups[i]));
      check(all.count(2) == refusing.length && all.taken(refusing.length) == 0, "those of reason(" + i + ") refuse it by themselves");
      for (int j = 0; j < i; j++) {
        if ((bits >> j & 1) == 0) continue;
        int[] fewer = without(~bits | 1 << j);
        check(made(n, with(fewer, groups[i])).taken(fewer.length) == 1, "group " + j + " could not be left out of reason(" + i + ")");
      }
    }
  }

  private void mayAndMust() {
    long many = made().many();
    int[] taken = without(~takenBits());
    if (taken.length >= 10) return;
    for (int set = 0; set < 1 << n; set++) {
      OrderTrees x = made();
      boolean may = true, must = true;
      if (Integer.bitCount(set) >= 2) {
        OrderTrees asked = made(n, with(taken, set));
        may = asked.taken(taken.length) == 1;
        must = may && asked.many() == many;
      }
      check(x.may(set) == (may ? 1 : 0), "may(" + set + ") tells whether the group would be taken");
      check(x.must(set) == (must ? 1 : 0), "must(" + set + ") tells whether it would say nothing new");
    }
  }

  private void spare() {
    OrderTrees x = made();
    int taken = takenBits(), spare = 0;
    for (int i = 0; i < groups.length; i++) {
      if ((taken >> i & 1) != 0 && made(n, without(~taken | 1 << i)).many() == x.many()) spare |= 1 << i;
    }
    check(x.spare() == spare, "spare() are those without which there are as many rows");
  }

  private void undone() {
    OrderTrees x = new OrderTrees();
    x.things(n);
    long[] before = new long[groups.length + 1];
    for (int i = 0; i < groups.length; i++) {
      before[i] = x.digest();
      x.group(groups[i]);
    }
    for (int i = groups.length - 1; i >= 0; i--) {
      check(x.back() == i && x.digest() == before[i], "back() undoes group " + i);
    }
  }

  private void hold() {
    rows();
    apart();
    tree();
    order();
    reasons();
    mayAndMust();
    spare();
    undone();
  }

  /** Most groups are runs of one row that is drawn first, so that many of them are taken. */
  private static LawTest drawn(Random r) {
    int n = 1 + r.nextInt(8);
    List<Integer> row = new ArrayList<>();
    for (int t = 0; t < n; t++) row.add(r.nextInt(t + 1), t);
    int[] groups = new int[r.nextInt(11)];
    for (int g = 0; g < groups.length; g++) {
      int from = r.nextInt(n), size = 2 + r.nextInt(n);
      for (int i = from; i < from + size && i < n; i++) groups[g] |= 1 << row.get(i);
      if (r.nextInt(4) == 0) groups[g] = r.nextInt(256);
      if (Integer.bitCount(groups[g]) < 2) groups[g] = 3 << r.nextInt(7);
    }
    return new LawTest(n, groups);
  }

  public static void main(String[] args) {
    int lists = args.length > 0 ? Integer.parseInt(args[0]) : 600;
    Random r = new Random(2206);
    for (int k = 0; k < lists && wrong == 0; k++) drawn(r).hold();
    System.out.println(wrong == 0 ? lists + " lists of groups are by the laws" : wrong + " answers are against the laws");
    if (wrong != 0) System.exit(1);
  }
}

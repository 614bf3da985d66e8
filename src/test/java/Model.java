import java.util.ArrayList;
import java.util.Arrays;
import java.util.BitSet;
import java.util.Comparator;
import java.util.HashMap;
import java.util.List;
import java.util.Map;

/**
 * The document by brute force: all rows are written out, and every answer is looked up in them.
 * It shares no way of working with the class, so that both hardly err alike.
 */
final class Model {
  private static final byte[][][] ALL_ROWS = new byte[9][][];
  private static final BitSet[][] HAVING = new BitSet[9][256];
  private static final Map<String, byte[][]> SORTED = new HashMap<>();

  private int n = 5;
  private final List<Integer> groups = new ArrayList<>();
  private final List<Integer> told = new ArrayList<>();
  private final Object[] sheets = new Object[4];
  private int finding = 0;

  private boolean[] taken = {};
  private BitSet permitted;
  private Part root;
  private final List<Part> nodes = new ArrayList<>();
  private String text;

  /** A part of the tree: a thing, or a node with parts. */
  private static final class Part {
    int set;
    boolean turning;
    List<Part> parts = new ArrayList<>();
    int least() { return Integer.numberOfTrailingZeros(set); }
  }

  Model() { derive(); }

  // ---- rows

  private static byte[][] rowsOf(int n) {
    if (ALL_ROWS[n] == null) {
      List<byte[]> all = new ArrayList<>();
      permute(new byte[n], 0, 0, all);
      ALL_ROWS[n] = all.toArray(new byte[0][]);
    }
    return ALL_ROWS[n];
  }

  private static void permute(byte[] row, int at, int used, List<byte[]> all) {
    if (at == row.length) { all.add(row.clone()); return; }
    for (byte t = 0; t < row.length; t++) {
      if ((used >> t & 1) != 0) continue;
      row[at] = t;
      permute(row, at + 1, used | 1 << t, all);
    }
  }

  private static boolean has(byte[] row, int set) {
    int changes = 0;
    boolean in = false;
    for (byte t : row) {
      boolean now = (set >> t & 1) != 0;
      if (now && !in) changes++;
      in = now;
    }
    return changes <= 1;
  }

  private static BitSet having(int n, int set) {
    int own = set & ((1 << n) - 1);
    if (HAVING[n][own] == null) {
      byte[][] rows = rowsOf(n);
      BitSet bits = new BitSet(rows.length);
      for (int i = 0; i < rows.length; i++) if (has(rows[i], own)) bits.set(i);
      HAVING[n][own] = bits;
    }
    return HAVING[n][own];
  }

  private BitSet all() {
    BitSet bits = new BitSet();
    bits.set(0, rowsOf(n).length);
    return bits;
  }

  private void derive() {
    taken = new boolean[groups.size()];
    permitted = all();
    for (int i = 0; i < taken.length; i++) {
      BitSet next = (BitSet) permitted.clone();
      next.and(having(n, groups.get(i)));
      taken[i] = !next.isEmpty();
      if (taken[i]) permitted = next;
    }
    root = part((1 << n) - 1, strongSets());
    nodes.clear();
    StringBuilder shown = new StringBuilder();
    show(root, shown);
    text = shown.toString();
  }

  // ---- the tree: its nodes are the sets that all rows have and that cross no other such set

  private boolean mustHave(int set) {
    BitSet lacking = (BitSet) permitted.clone();
    lacking.andNot(having(n, set));
    return lacking.isEmpty();
  }

  private List<Integer> strongSets() {
    List<Integer> must = new ArrayList<>();
    for (int set = 1; set < 1 << n; set++) if (mustHave(set)) must.add(set);
    List<Integer> strong = new ArrayList<>();
    for (int a : must) {
      boolean crossed = false;
      for (int b : must) crossed |= (a & b) != 0 && (a & ~b) != 0 && (b & ~a) != 0;
      if (!crossed) strong.add(a);
    }
    return strong;
  }

  private Part part(int set, List<Integer> strong) {
    Part p = new Part();
    p.set = set;
    for (int inner : strong) {
      if (inner == set || (inner & ~set) != 0) continue;
      boolean greatest = true;
      for (int between : strong) {
        greatest &= !(between != inner && between != set && (inner & ~between) == 0 && (between & ~set) == 0);
      }
      if (greatest) p.parts.add(part(inner, strong));
    }
    if (p.parts.size() > 2) {
      for (Part a : p.parts) for (Part b : p.parts) p.turning |= a != b && mustHave(a.set | b.set);
    }
    if (p.turning) {
      byte[] row = rowsOf(n)[permitted.nextSetBit(0)];
      p.parts.sort(Comparator.comparingInt(q -> place(row, q.least())));
      List<Part> ps = p.parts;
      if (ps.get(0).least() > ps.get(ps.size() - 1).least()) java.util.Collections.reverse(ps);
    } else {
      p.parts.sort(Comparator.comparingInt(Part::least));
    }
    return p;
  }

  private static int place(byte[] row, int thing) {
    for (int i = 0; i < row.length; i++) if (row[i] == thing) return i;
    throw new IllegalStateException();
  }

  private void show(Part p, StringBuilder shown) {
    if (p.parts.isEmpty()) { shown.append((char) ('a' + p.least())); return; }
    nodes.add(p);
    shown.append(p.turning ? '[' : '(');
    for (Part q : p.parts) show(q, shown);
    shown.append(p.turning ? ']' : ')');
  }

  // ---- rows by their numbers

  private static int[] word(byte[] row, Part node) {
    List<Integer> order = new ArrayList<>();
    for (int i = 0; i < node.parts.size(); i++) order.add(i);
    order.sort(Comparator.comparingInt(i -> place(row, node.parts.get(i).least())));
    if (node.turning) return new int[] {order.get(0) == 0 ? 0 : 1};
    return order.stream().mapToInt(i -> i).toArray();
  }

  private byte[][] sorted() {
    byte[][] known = SORTED.get(text);
    if (known != null) return known;
    List<int[][]> keys = new ArrayList<>();
    List<Integer> order = new ArrayList<>();
    List<byte[]> rows = new ArrayList<>();
    permitted.stream().forEach(i -> {
      byte[] row = rowsOf(n)[i];
      int[][] key = new int[nodes.size()][];
      for (int k = 0; k < key.length; k++) key[k] = word(row, nodes.get(k));
      order.add(rows.size());
      rows.add(row);
      keys.add(key);
    });
    order.sort((x, y) -> {
      for (int k = 0; k < nodes.size(); k++) {
        int c = Arrays.compare(keys.get(x)[k], keys.get(y)[k]);
        if (c != 0) return c;
      }
      return 0;
    });
    byte[][] answer = order.stream().map(rows::get).toArray(byte[][]::new);
    if (SORTED.size() < 20000) SORTED.put(text, answer);
    return answer;
  }

  // ---- the calls

  int things(int to) {
    if (to < 1 || to > 8) return -2;
    int was = n;
    n = to;
    derive();
    return was;
  }

  int group(int set) {
    if (set < 0 || set > 255 || Integer.bitCount(set) < 2) return -2;
    if (groups.size() == 10) return -4;
    groups.add(set);
    derive();
    return taken[groups.size() - 1] ? 1 : 0;
  }

  int back() {
    if (groups.isEmpty()) return -3;
    groups.remove(groups.size() - 1);
    derive();
    return groups.size();
  }

  int taken(int i) {
    if (i < 0 || i >= groups.size()) return -2;
    return taken[i] ? 1 : 0;
  }

  int reason(int i) {
    if (i < 0 || i >= groups.size()) return -2;
    if (taken[i]) return -3;
    int left = 0;
    for (int j = 0; j < i; j++) if (taken[j]) left |= 1 << j;
    for (int j = 0; j < i; j++) {
      if ((left >> j & 1) == 0) continue;
      BitSet rows = (BitSet) having(n, groups.get(i)).clone();
      for (int k = 0; k < i; k++) if (k != j && (left >> k & 1) != 0) rows.and(having(n, groups.get(k)));
      if (rows.isEmpty()) left &= ~(1 << j);
    }
    return left;
  }

  int read(int s) {
    if (s < 0 || s > 3) return -2;
    if (sheets[s] == null) return found(1);
    int came = 0;
    for (int i = 0; i < size(s); i++) {
      if (group(item(s, i)) < 0) break;
      came++;
    }
    return came;
  }

  long many() { return permitted.cardinality(); }

  int tree(int i) {
    if (i < -1 || i > 39) return -2;
    if (i == -1) return text.length();
    return i < text.length() ? text.charAt(i) : -1;
  }

  int node(int i, int what) {
    if (i < 0 || i > 6 || what < 0 || what > 2) return -2;
    if (i >= nodes.size()) return -1;
    Part p = nodes.get(i);
    return what == 0 ? (p.turning ? 1 : 0) : what == 1 ? p.parts.size() : p.set;
  }

  int row(int i, int place) {
    if (i < 0 || i > 40319 || place < 0 || place > 7) return -2;
    if (i >= many() || place >= n) return -1;
    return sorted()[i][place];
  }

  private boolean unlike(int set) { return set < 0 || set > 255 || set >= 1 << n; }

  int may(int set) {
    if (unlike(set)) return -2;
    return permitted.intersects(having(n, set)) ? 1 : 0;
  }

  int must(int set) {
    if (unlike(set)) return -2;
    return mustHave(set) ? 1 : 0;
  }

  int apart(int a, int b, int what) {
    if (a < 0 || a >= n || b < 0 || b >= n || a == b || what < 0 || what > 1) return -2;
    int[] ends = {99, -1};
    permitted.stream().forEach(i -> {
      byte[] row = rowsOf(n)[i];
      int between = Math.abs(place(row, a) - place(row, b)) - 1;
      ends[0] = Math.min(ends[0], between);
      ends[1] = Math.max(ends[1], between);
    });
    return ends[what];
  }

  int spare() {
    int spare = 0;
    for (int i = 0; i < taken.length; i++) {
      if (!taken[i]) continue;
      BitSet rows = all();
      for (int k = 0; k < taken.length; k++) if (k != i && taken[k]) rows.and(having(n, groups.get(k)));
      if (rows.cardinality() == permitted.cardinality()) spare |= 1 << i;
    }
    return spare;
  }

  int type(int b) {
    if (b < 0 || b > 255) return -2;
    if (told.size() == 8) return -4;
    told.add(b);
    return told.size();
  }

  int wipe() {
    int had = told.size();
    told.clear();
    return had;
  }

  int undo() {
    if (told.isEmpty()) return -3;
    told.remove(told.size() - 1);
    return told.size();
  }

  int fault() {
    for (int i = 0; i < told.size(); i++) {
      int b = told.get(i);
      if (b < 'a' || b >= 'a' + n || told.subList(0, i).contains(b)) return i;
    }
    return told.isEmpty() || told.size() == n ? -1 : told.size();
  }

  private byte[] toldRow() {
    if (told.isEmpty() || fault() != -1) return null;
    byte[] row = new byte[n];
    for (int i = 0; i < n; i++) row[i] = (byte) (told.get(i) - 'a');
    return row;
  }

  int misses() {
    byte[] row = toldRow();
    if (row == null) return -3;
    int missed = 0;
    for (int i = 0; i < groups.size(); i++) if (!has(row, groups.get(i))) missed |= 1 << i;
    return missed;
  }

  int number() {
    byte[] row = toldRow();
    if (row == null) return -3;
    byte[][] rows = sorted();
    for (int i = 0; i < rows.length; i++) if (Arrays.equals(rows[i], row)) return i;
    return -1;
  }

  // ---- sheets are rows of their own forms

  private int found(int number) {
    finding = number;
    return -10 - number;
  }

  private static int formOf(Object sheet) {
    return sheet instanceof byte[] ? 0 : sheet instanceof short[] ? 1 : 2;
  }

  private int size(int s) { return java.lang.reflect.Array.getLength(sheets[s]); }

  private int item(int s, int i) { return java.lang.reflect.Array.getInt(sheets[s], i); }

  private void setItem(int s, int i, int v) {
    if (sheets[s] instanceof byte[] bytes) bytes[i] = (byte) v;
    else if (sheets[s] instanceof short[] shorts) shorts[i] = (short) v;
    else ((int[]) sheets[s])[i] = v;
  }

  int sheet(int s, int form, int size) {
    if (s < 0 || s > 3 || form < 0 || form > 2 || size > 60) return -2;
    if (size < 0) return found(5);
    sheets[s] = form == 0 ? new byte[size] : form == 1 ? new short[size] : new int[size];
    return size;
  }

  int lose(int s) {
    if (s < 0 || s > 3) return -2;
    if (sheets[s] == null) return found(1);
    int had = size(s);
    sheets[s] = null;
    return had;
  }

  int put(int s, int form, int i, int v) {
    if (s < 0 || s > 3 || form < 0 || form > 2) return -2;
    if (sheets[s] == null) return found(1);
    if (formOf(sheets[s]) != form) return found(3);
    if (i < 0 || i >= size(s)) return found(2);
    setItem(s, i, v);
    return 1;
  }

  int get(int s, int form, int i) {
    int least = Integer.MIN_VALUE;
    if (s < 0 || s > 3 || form < 0 || form > 2) return least;
    if (sheets[s] == null) { found(1); return least; }
    if (formOf(sheets[s]) != form) { found(3); return least; }
    if (i < 0 || i >= size(s)) { found(2); return least; }
    return item(s, i);
  }

  int copy(int s, int i, int t, int j, int k) {
    if (s < 0 || s > 3 || t < 0 || t > 3) return -2;
    if (sheets[s] == null || sheets[t] == null) return found(1);
    if (formOf(sheets[s]) != formOf(sheets[t])) return found(4);
    if (i < 0 || j < 0 || k < 0 || (long) i + k > size(s) || (long) j + k > size(t)) return found(2);
    int[] kept = new int[k];
    for (int x = 0; x < k; x++) kept[x] = item(s, i + x);
    for (int x = 0; x < k; x++) setItem(t, j + x, kept[x]);
    return 1;
  }

  int write(int i, int s) {
    if (i < 0 || i > 40319 || s < 0 || s > 3) return -2;
    if (sheets[s] == null) return found(1);
    if (i >= many()) return 0;
    int came = 0;
    for (int place = 0; place < n && place < size(s); place++, came++) setItem(s, place, sorted()[i][place]);
    return came;
  }

  int count(int what) {
    int turning = 0;
    for (Part p : nodes) if (p.turning) turning++;
    int takenOnes = 0;
    for (boolean one : taken) if (one) takenOnes++;
    int[] counts = {n, groups.size(), takenOnes, nodes.size(), turning, permitted.cardinality(),
      text.length(), told.size(), finding};
    return what < 0 || what > 8 ? -2 : counts[what];
  }

  long digest() {
    List<Long> all = new ArrayList<>();
    for (int what = 0; what <= 7; what++) all.add((long) count(what));
    for (int i = 0; i < groups.size(); i++) { all.add((long) taken(i)); all.add((long) reason(i)); }
    all.add(many());
    for (int i = -1; i <= 39; i++) all.add((long) tree(i));
    for (int i = 0; i <= 6; i++) for (int what = 0; what <= 2; what++) all.add((long) node(i, what));
    for (int i : new int[] {0, 1, 2, 5, 100}) for (int p = 0; p <= 7; p++) all.add((long) row(i, p));
    for (int set : new int[] {3, 6, 12, 5, 7, 14}) { all.add((long) may(set)); all.add((long) must(set)); }
    for (int a = 0; a < n; a++) for (int b = 0; b < n; b++) {
      all.add((long) apart(a, b, 0));
      all.add((long) apart(a, b, 1));
    }
    all.add((long) spare());
    all.add((long) fault());
    all.add((long) misses());
    all.add((long) number());
    long h = 17;
    for (long each : all) h = 31 * h + each;
    return h;
  }

  String text() { return text; }
}

/** Each promise of the document by itself, with answers worked out by hand. */
public final class PromiseTest {
  private static final int LEAST = Integer.MIN_VALUE, MOST = Integer.MAX_VALUE;
  private static final int NULL = -11, INDEX = -12, CAST = -13, STORE = -14, SIZE = -15;
  private static int wrong = 0;
  private static int promise = 0;

  private static void due(String what, long got, long want) {
    if (got == want) return;
    wrong++;
    System.out.println("promise " + promise + ": " + what + " answered " + got + ", due is " + want);
  }

  private static void due(String what, String got, String want) {
    if (got.equals(want)) return;
    wrong++;
    System.out.println("promise " + promise + ": " + what + " answered " + got + ", due is " + want);
  }

  private static OrderTrees with(int n, int... sets) {
    OrderTrees x = new OrderTrees();
    x.things(n);
    for (int set : sets) x.group(set);
    return x;
  }

  private static int set(String things) {
    int bits = 0;
    for (char c : things.toCharArray()) bits |= 1 << c - 'a';
    return bits;
  }

  private static String shown(OrderTrees x) {
    StringBuilder text = new StringBuilder();
    for (int i = 0; i < x.tree(-1); i++) text.append((char) x.tree(i));
    return text.toString();
  }

  private static String row(OrderTrees x, int i) {
    StringBuilder text = new StringBuilder();
    for (int place = 0; place < 8 && x.row(i, place) >= 0; place++) text.append((char) ('a' + x.row(i, place)));
    return text.toString();
  }

  private static OrderTrees tell(OrderTrees x, String bytes) {
    x.wipe();
    for (char c : bytes.toCharArray()) x.type(c);
    return x;
  }

  private static void newObject() {
    promise = 1;
    OrderTrees x = new OrderTrees();
    due("things", x.count(0), 5);
    due("groups", x.count(1), 0);
    due("told", x.count(7), 0);
    due("finding", x.count(8), 0);
    due("tree", shown(x), "(abcde)");
    for (int s = 0; s < 4; s++) due("lose(" + s + ")", x.lose(s), NULL);
    due("NONE", OrderTrees.NONE, -1);
    due("BAD", OrderTrees.BAD, -2);
    due("NOT", OrderTrees.NOT, -3);
    due("FULL", OrderTrees.FULL, -4);
    OrderTrees y = new OrderTrees();
    x.group(3);
    due("another object", y.count(1), 0);
  }

  private static void things() {
    promise = 2;
    OrderTrees x = with(5, set("ab"), set("bc"), set("fg"));
    for (int bad : new int[] {0, 9, -1, LEAST, MOST}) due("things(" + bad + ")", x.things(bad), -2);
    due("things stay", x.count(0), 5);
    due("things(2)", x.things(2), 5);
    due("tree of 2", shown(x), "(ab)");
    due("things(1)", x.things(1), 2);
    due("tree of 1", shown(x), "a");
    due("things(8)", x.things(8), 1);
    due("tree of 8", shown(x), "([abc]de(fg)h)");
    due("things(8) again", x.things(8), 8);
    // bd is refused by ab and bc; without d it says nothing, and is taken.
    OrderTrees y = with(5, set("ab"), set("bc"), set("bd"));
    due("refused", y.taken(2), 0);
    due("reason", y.reason(2), 3);
    due("things(3)", y.things(3), 5);
    due("taken with 3", y.taken(2), 1);
    due("no reason", y.reason(2), -3);
    due("tree", shown(y), "[abc]");
    due("things(5)", y.things(5), 3);
    due("refused again", y.taken(2), 0);
    // With fewer things an earlier group says less, so that a later one may be taken, another not.
    OrderTrees z = with(4, set("ad"), set("ab"), set("ac"), set("bc"));
    due("ac with d", z.taken(2), 0);
    due("bc with d", z.taken(3), 1);
    z.things(3);
    due("ac without d", z.taken(2), 1);
    due("bc without d", z.taken(3), 0);
    due("its reason", z.reason(3), 2 | 4);
  }

  private static void group() {
    promise = 3;
    OrderTrees x = new OrderTrees();
    for (int bad : new int[] {0, 1, 2, 64, 128, 256, 259, -1, LEAST, MOST}) due("group(" + bad + ")", x.group(bad), -2);
    due("no group", x.count(1), 0);
    due("things that there are not", x.group(set("gh")), 1);
    due("one thing that there is", x.group(set("ah")), 1);
    due("nothing said", shown(x), "(abcde)");
    due("all", x.group(255), 1);
    due("ab", x.group(set("ab")), 1);
    due("bc", x.group(set("bc")), 1);
    due("ac", x.group(set("ac")), 0);
    due("bd", x.group(set("bd")), 0);
    due("ab again", x.group(set("ab")), 1);
    for (int i = 8; i < 10; i++) due("group " + i, x.group(set("abc")), 1);
    due("the 11th", x.group(3), -4);
    due("the 11th, bad", x.group(1), -2);
    due("groups", x.count(1), 10);
  }

  private static void back() {
    promise = 4;
    OrderTrees x = new OrderTrees();
    due("none", x.back(), -3);
    x.group(set("ab"));
    x.group(set("bc"));
    x.group(set("ac"));
    due("back", x.back(), 2);
    due("tree", shown(x), "([abc]de)");
    due("back", x.back(), 1);
    due("tree", shown(x), "((ab)cde)");
    due("ac is taken now", x.group(set("ac")), 1);
    due("back", x.back(), 1);
    due("back", x.back(), 0);
    due("tree", shown(x), "(abcde)");
    due("none", x.back(), -3);
  }

  private static void taken() {
    promise = 5;
    OrderTrees x = with(5, set("ab"), set("bc"), set("bd"), set("de"));
    int[] want = {1, 1, 0, 1};
    for (int i = 0; i < 4; i++) due("taken(" + i + ")", x.taken(i), want[i]);
    for (int bad : new int[] {4, -1, 10, LEAST, MOST}) due("taken(" + bad + ")", x.taken(bad), -2);
  }

  private static void reason() {
    promise = 6;
    // Of ab, bc, bd the last is refused by both; de says nothing to it.
    OrderTrees x = with(5, set("ab"), set("de"), set("bc"), set("be"));
    due("taken one", x.reason(0), -3);
    due("reason", x.reason(3), 1 | 4);
    for (int bad : new int[] {4, -1, LEAST, MOST}) due("reason(" + bad + ")", x.reason(bad), -2);
    // The first is left out, if the later ones refuse by themselves.
    OrderTrees y = with(5, set("ab"), set("ab"), set("bc"), set("bc"), set("bd"));
    due("the later ones", y.reason(4), 2 | 8);
    // Refused ones are in no reason.
    OrderTrees z = with(5, set("ab"), set("bc"), set("ac"), set("bd"));
    due("a taken one's side", z.reason(2), 1 | 2);
    due("no refused one", z.reason(3), 1 | 2);
    // Groups behind it are in no reason.
    z.group(set("ab"));
    due("no later one", z.reason(3), 1 | 2);
  }

  private static void read() {
    promise = 7;
    OrderTrees x = new OrderTrees();
    for (int bad : new int[] {-1, 4, LEAST, MOST}) due("read(" + bad + ")", x.read(bad), -2);
    due("lost", x.read(0), NULL);
    due("finding", x.count(8), 1);
    x.sheet(0, 2, 5);
    int[] items = {set("ab"), set("bc"), set("ac"), set("de"), 4};
    for (int i = 0; i < 5; i++) x.put(0, 2, i, items[i]);
    due("up to the bad one", x.read(0), 4);
    due("a refused one came, too", x.taken(2), 0);
    due("behind those that there are", x.read(0), 4);
    due("up to full", x.read(0), 2);
    due("full", x.read(0), 0);
    due("groups", x.count(1), 10);
    due("finding stays", x.count(8), 1);
    x.sheet(1, 0, 0);
    due("an empty one", x.read(1), 0);
    OrderTrees w = new OrderTrees();
    for (int size = 3; size >= 1; size -= 2) {
      w.sheet(0, 2, size);
      for (int i = 0; i < size; i++) w.put(0, 2, i, set("ab"));
    }
    due("no item of the sheet that it was", w.read(0), 1);
    OrderTrees y = with(8);
    y.sheet(3, 0, 2);
    y.put(3, 0, 0, 127);
    y.put(3, 0, 1, 255);
    due("a byte with its sign is bad", y.read(3), 1);
  }

  private static void many() {
    promise = 8;
    int[] factorials = {1, 1, 2, 6, 24, 120, 720, 5040, 40320};
    for (int n = 1; n <= 8; n++) due("many of " + n, with(n).many(), factorials[n]);
    due("((ab)cde)", with(5, set("ab")).many(), 48);
    due("([abc]de)", with(5, set("ab"), set("bc")).many(), 12);
    due("a refused one takes none away", with(5, set("ab"), set("bc"), set("ac")).many(), 12);
  }

  private static void tree() {
    promise = 9;
    OrderTrees x = with(8, set("abc"), set("cde"), set("efg"));
    due("tree", shown(x), "([(ab)cd e(fg)]h)".replace(" ", ""));
    due("length", x.tree(-1), 16);
    due("the last byte", x.tree(15), ')');
    due("behind it", x.tree(16), -1);
    due("the 39th", x.tree(39), -1);
    for (int bad : new int[] {40, -2, LEAST, MOST}) due("tree(" + bad + ")", x.tree(bad), -2);
    due("one thing", shown(with(1)), "a");
    due("one thing's end", with(1).tree(1), -1);
    due("two are free", shown(with(2, 3)), "(ab)");
    due("free parts by their least", shown(with(5, set("be"), set("cd"))), "(a(be)(cd))");
    due("turning: least of the first below that of the last", shown(with(5, set("ed"), set("da"))), "([ade]bc)");
    due("turning with nodes", shown(with(5, set("bc"), set("bce"), set("ea"))), "([ae(bc)]d)");
    due("nodes that both join", shown(with(6, set("ab"), set("cd"), set("bc"))), "([abcd]ef)");
    due("a node within a turning one", shown(with(6, set("ab"), set("bcd"))), "([ab(cd)]ef)");
    due("and taken asunder", shown(with(6, set("ab"), set("bcd"), set("de"))), "([abcde]f)");
    due("from the inside of two", shown(with(8, set("abc"), set("fgh"), set("cdef"))), "[(ab)c(de)f(gh)]");
    due("all in a line", shown(with(8, set("ab"), set("bc"), set("cd"), set("de"), set("ef"), set("fg"), set("gh"))), "[abcdefgh]");
    due("the most nodes", shown(with(8, set("ab"), set("abc"), set("abcd"), set("abcde"), set("abcdef"), set("abcdefg"))), "(((((((ab)c)d)e)f)g)h)");
  }

  private static void node() {
    promise = 10;
    OrderTrees x = with(8, set("abc"), set("cde"), set("efg"));
    int[][] want = {{0, 2, 255}, {1, 5, 127}, {0, 2, set("ab")}, {0, 2, set("fg")}, {-1, -1, -1}, {-1, -1, -1}, {-1, -1, -1}};
    for (int i = 0; i < 7; i++) for (int what = 0; what < 3; what++) due("node(" + i + ", " + what + ")", x.node(i, what), want[i][what]);
    for (int bad : new int[] {-1, 7, LEAST, MOST}) due("node(" + bad + ", 0)", x.node(bad, 0), -2);
    for (int bad : new int[] {-1, 3, LEAST, MOST}) due("node(0, " + bad + ")", x.node(0, bad), -2);
    due("bad ahead of none", x.node(6, 3), -2);
    due("one thing has no node", with(1).node(0, 0), -1);
    OrderTrees deep = with(8, set("ab"), set("abc"), set("abcd"), set("abcde"), set("abcdef"), set("abcdefg"));
    due("the seventh", deep.node(6, 2), set("ab"));
  }

  private static void rows() {
    promise = 11;
    OrderTrees x = with(4, set("ab"));
    // ((ab)cd): the outer node's way decides first.
    String[] want = {"abcd", "bacd", "abdc", "badc", "cabd", "cbad", "cdab", "cdba", "dabc", "dbac", "dcab", "dcba", ""};
    for (int i = 0; i < want.length; i++) due("row " + i, row(x, i), want[i]);
    OrderTrees y = with(5, set("ab"), set("bc"), set("de"));
    // ([abc](de))
    String[] more = {"abcde", "abced", "cbade", "cbaed", "deabc", "edabc", "decba", "edcba", ""};
    for (int i = 0; i < more.length; i++) due("row " + i, row(y, i), more[i]);
    due("no such place", y.row(0, 5), -1);
    due("no such row", y.row(8, 0), -1);
    due("the last number", y.row(40319, 7), -1);
    due("the last row of 8", row(with(8), 40319), "hgfedcba");
    due("row 5040 of 8", row(with(8), 5040), "bacdefgh");
    for (int bad : new int[] {-1, 40320, LEAST, MOST}) due("row(" + bad + ", 0)", y.row(bad, 0), -2);
    for (int bad : new int[] {-1, 8, LEAST, MOST}) due("row(0, " + bad + ")", y.row(0, bad), -2);
    due("row of 1", row(with(1), 0), "a");
    due("row 1 of 1", with(1).row(1, 0), -1);
  }

  private static void may() {
    promise = 12;
    OrderTrees x = with(5, set("ab"), set("bc"));
    due("none", x.may(0), 1);
    due("one", x.may(set("d")), 1);
    due("ab", x.may(set("ab")), 1);
    due("ac", x.may(set("ac")), 0);
    due("bd", x.may(set("bd")), 0);
    due("ad", x.may(set("ad")), 1);
    due("ade", x.may(set("ade")), 1);
    due("all", x.may(31), 1);
    for (int bad : new int[] {-1, 256, 32, 128, 33, LEAST, MOST}) due("may(" + bad + ")", x.may(bad), -2);
    due("asking changes nothing", shown(x), "([abc]de)");
    due("h of 8", with(8).may(set("ah")), 1);
  }

  private static void must() {
    promise = 13;
    OrderTrees x = with(5, set("ab"), set("bc"));
    due("none", x.must(0), 1);
    due("one", x.must(set("d")), 1);
    due("ab", x.must(set("ab")), 1);
    due("bc", x.must(set("bc")), 1);
    due("abc", x.must(set("abc")), 1);
    due("ac", x.must(set("ac")), 0);
    due("ad", x.must(set("ad")), 0);
    due("de", x.must(set("de")), 0);
    due("all", x.must(31), 1);
    for (int bad : new int[] {-1, 256, 32, 128, 33, LEAST, MOST}) due("must(" + bad + ")", x.must(bad), -2);
    due("asking changes nothing", shown(x), "([abc]de)");
  }

  private static void apart() {
    promise = 14;
    OrderTrees x = with(6, set("ab"), set("bc"), set("de"));
    // ([abc](de)f)
    int[][] want = {{0, 1, 0, 0}, {0, 2, 1, 1}, {1, 0, 0, 0}, {0, 3, 0, 4}, {1, 3, 1, 3}, {3, 4, 0, 0}, {5, 0, 0, 4}, {3, 5, 0, 4}, {1, 5, 1, 3}};
    for (int[] w : want) {
      due("apart(" + w[0] + ", " + w[1] + ", 0)", x.apart(w[0], w[1], 0), w[2]);
      due("apart(" + w[0] + ", " + w[1] + ", 1)", x.apart(w[0], w[1], 1), w[3]);
      due("the other way about, 1", x.apart(w[1], w[0], 1), w[3]);
    }
    due("one twice", x.apart(2, 2, 0), -2);
    for (int bad : new int[] {-1, 6, 8, LEAST, MOST}) {
      due("apart(" + bad + ", 0, 0)", x.apart(bad, 0, 0), -2);
      due("apart(0, " + bad + ", 0)", x.apart(0, bad, 0), -2);
    }
    for (int bad : new int[] {-1, 2, LEAST, MOST}) due("apart(0, 1, " + bad + ")", x.apart(0, 1, bad), -2);
  }

  private static void spare() {
    promise = 15;
    due("none", new OrderTrees().spare(), 0);
    due("each needed", with(5, set("ab"), set("bc")).spare(), 0);
    due("abc by ab, bc", with(5, set("ab"), set("bc"), set("abc")).spare(), 4);
    due("twice: each alone", with(5, set("ab"), set("ab")).spare(), 3);
    due("all things, and things that there are not", with(5, 31, set("gh"), set("ab"), set("ah")).spare(), 1 | 2 | 8);
    due("refused ones are not", with(5, set("ab"), set("bc"), set("ac")).spare(), 0);
  }

  private static void type() {
    promise = 16;
    OrderTrees x = new OrderTrees();
    for (int bad : new int[] {-1, 256, LEAST, MOST}) due("type(" + bad + ")", x.type(bad), -2);
    int[] bytes = {0, 255, 97, 97, 1, 2, 3, 4};
    for (int i = 0; i < 8; i++) due("type", x.type(bytes[i]), i + 1);
    due("full", x.type(97), -4);
    due("bad ahead of full", x.type(256), -2);
    due("bytes", x.count(7), 8);
  }

  private static void wipe() {
    promise = 17;
    OrderTrees x = new OrderTrees();
    due("empty", x.wipe(), 0);
    tell(x, "abz");
    due("three", x.wipe(), 3);
    due("then", x.count(7), 0);
    due("again", x.wipe(), 0);
  }

  private static void undo() {
    promise = 18;
    OrderTrees x = new OrderTrees();
    due("empty", x.undo(), -3);
    tell(x, "abz");
    due("two left", x.undo(), 2);
    due("the fault is the end", x.fault(), 2);
    due("one", x.undo(), 1);
    due("none", x.undo(), 0);
    due("empty", x.undo(), -3);
    due("type", x.type(98), 1);
  }

  private static void fault() {
    promise = 19;
    OrderTrees x = new OrderTrees();
    due("empty", x.fault(), -1);
    String[] told = {"a", "abcd", "abcde", "edcba", "abcdea", "f", "abf", "aa", "abca", "A", "`", "abcdef", "abcdefgh"};
    int[] want = {1, 4, -1, -1, 5, 0, 2, 1, 3, 0, 0, 5, 5};
    for (int i = 0; i < told.length; i++) due(told[i], tell(x, told[i]).fault(), want[i]);
    tell(x, "abcde");
    x.things(6);
    due("not all", x.fault(), 5);
    x.things(4);
    due("no thing", x.fault(), 4);
    due("all of 8", tell(with(8), "hgfedcba").fault(), -1);
    due("one of 1", tell(with(1), "a").fault(), -1);
    OrderTrees y = new OrderTrees();
    y.type(0);
    due("byte 0", y.fault(), 0);
    y.wipe();
    y.type(255);
    due("byte 255", y.fault(), 0);
  }

  private static void misses() {
    promise = 20;
    OrderTrees x = with(5, set("ab"), set("bc"), set("ac"), set("de"), set("gh"));
    due("empty", x.misses(), -3);
    due("not all", tell(x, "abcd").misses(), -3);
    due("a fault", tell(x, "abcda").misses(), -3);
    due("a refused one", tell(x, "abcde").misses(), 4);
    due("another", tell(x, "acbde").misses(), 1);
    due("more", tell(x, "adbec").misses(), 1 | 2 | 4 | 8);
    due("no group", tell(with(3), "cba").misses(), 0);
  }

  private static void number() {
    promise = 21;
    OrderTrees x = with(5, set("ab"), set("bc"), set("de"));
    due("empty", x.number(), -3);
    due("not all", tell(x, "abcd").number(), -3);
    due("a fault", tell(x, "abcdd").number(), -3);
    due("not permitted", tell(x, "acbde").number(), -1);
    String[] rows = {"abcde", "abced", "cbade", "cbaed", "deabc", "edabc", "decba", "edcba"};
    for (int i = 0; i < rows.length; i++) due(rows[i], tell(x, rows[i]).number(), i);
    x.group(set("ac"));
    due("a refused one is no hindrance", tell(x, "abcde").number(), 0);
    due("the last of 8", tell(with(8), "hgfedcba").number(), 40319);
    due("of 1", tell(with(1), "a").number(), 0);
  }

  private static void sheet() {
    promise = 22;
    OrderTrees x = new OrderTrees();
    for (int bad : new int[] {-1, 4, LEAST, MOST}) due("sheet(" + bad + ", 0, 1)", x.sheet(bad, 0, 1), -2);
    for (int bad : new int[] {-1, 3, LEAST, MOST}) due("sheet(0, " + bad + ", 1)", x.sheet(0, bad, 1), -2);
    for (int bad : new int[] {61, MOST}) due("sheet(0, 0, " + bad + ")", x.sheet(0, 0, bad), -2);
    due("no finding", x.count(8), 0);
    due("below 0", x.sheet(0, 0, -1), SIZE);
    due("finding", x.count(8), 5);
    due("the least int", x.sheet(0, 0, LEAST), SIZE);
    due("bad ahead of size", x.sheet(4, 0, -1), -2);
    due("still lost", x.lose(0), NULL);
    due("60", x.sheet(0, 2, 60), 60);
    due("put", x.put(0, 2, 59, 7), 1);
    due("size leaves it", x.sheet(0, 1, -5), SIZE);
    due("item", x.get(0, 2, 59), 7);
    due("a new one", x.sheet(0, 2, 60), 60);
    due("0 at first", x.get(0, 2, 59), 0);
    due("another form", x.sheet(0, 0, 0), 0);
    due("empty, not lost", x.lose(0), 0);
    due("all four", x.sheet(3, 1, 2), 2);
  }

  private static void lose() {
    promise = 23;
    OrderTrees x = new OrderTrees();
    for (int bad : new int[] {-1, 4, LEAST, MOST}) due("lose(" + bad + ")", x.lose(bad), -2);
    due("no finding", x.count(8), 0);
    due("lost", x.lose(2), NULL);
    due("finding", x.count(8), 1);
    x.sheet(2, 1, 9);
    due("lose", x.lose(2), 9);
    due("lost", x.lose(2), NULL);
    due("no items", x.get(2, 1, 0), LEAST);
  }

  private static void put() {
    promise = 24;
    OrderTrees x = new OrderTrees();
    due("bad sheet", x.put(4, 0, 0, 0), -2);
    due("bad sheet", x.put(-1, 0, 0, 0), -2);
    due("bad form ahead of null", x.put(0, 3, 0, 0), -2);
    due("bad form", x.put(0, -1, 0, 0), -2);
    due("null ahead of index", x.put(0, 0, -1, 0), NULL);
    due("finding", x.count(8), 1);
    for (int form = 0; form < 3; form++) x.sheet(form, form, 2);
    due("cast ahead of index", x.put(0, 1, 2, 0), CAST);
    due("finding", x.count(8), 3);
    due("cast", x.put(1, 2, 0, 0), CAST);
    due("index", x.put(0, 0, 2, 0), INDEX);
    due("finding", x.count(8), 2);
    due("index", x.put(0, 0, -1, 0), INDEX);
    due("index", x.put(0, 0, MOST, 0), INDEX);
    int[] values = {0, 127, 128, 255, 256, -1, 32767, 32768, 65535, 65536, LEAST, MOST};
    for (int v : values) {
      due("put", x.put(0, 0, 1, v), 1);
      due("byte " + v, x.get(0, 0, 1), (byte) v);
      due("put", x.put(1, 1, 1, v), 1);
      due("short " + v, x.get(1, 1, 1), (short) v);
      due("put", x.put(2, 2, 1, v), 1);
      due("int " + v, x.get(2, 2, 1), v);
    }
    due("the item beside it", x.get(0, 0, 0), 0);
  }

  private static void get() {
    promise = 25;
    OrderTrees x = new OrderTrees();
    due("bad sheet", x.get(4, 0, 0), LEAST);
    due("bad sheet", x.get(-1, 0, 0), LEAST);
    due("bad form", x.get(0, 3, 0), LEAST);
    due("bad is no finding", x.count(8), 0);
    due("null", x.get(0, 0, 0), LEAST);
    due("finding", x.count(8), 1);
    x.sheet(0, 1, 3);
    x.put(0, 1, 2, -9);
    due("item", x.get(0, 1, 2), -9);
    due("finding stays", x.count(8), 1);
    due("cast", x.get(0, 0, 7), LEAST);
    due("finding", x.count(8), 3);
    due("index", x.get(0, 1, 3), LEAST);
    due("finding", x.count(8), 2);
    due("bad form", x.get(0, -1, 0), LEAST);
    due("finding stays", x.count(8), 2);
    due("index", x.get(0, 1, -1), LEAST);
  }

  private static String items(OrderTrees x, int s, int form, int n) {
    StringBuilder text = new StringBuilder();
    for (int i = 0; i < n; i++) text.append(x.get(s, form, i)).append(' ');
    return text.toString();
  }

  private static void copy() {
    promise = 26;
    OrderTrees x = new OrderTrees();
    due("bad", x.copy(4, 0, 0, 0, 0), -2);
    due("bad", x.copy(0, 0, -1, 0, 0), -2);
    due("null s", x.copy(0, -1, 1, 0, 0), NULL);
    x.sheet(0, 2, 5);
    due("null t", x.copy(0, 0, 1, 0, 0), NULL);
    due("null s", x.copy(1, 0, 0, 0, 0), NULL);
    x.sheet(1, 1, 5);
    due("store ahead of index", x.copy(0, 9, 1, 9, 9), STORE);
    due("finding", x.count(8), 4);
    due("store of none", x.copy(0, 0, 1, 0, 0), STORE);
    x.sheet(1, 2, 3);
    for (int i = 0; i < 5; i++) x.put(0, 2, i, i + 1);
    int[][] bad = {{-1, 0, 1}, {0, -1, 1}, {0, 0, -1}, {0, 0, 4}, {3, 0, 3}, {0, 1, 3}, {6, 0, 0}, {0, 4, 0},
      {MOST, 0, MOST}, {1, 1, MOST}, {0, MOST, 1}, {LEAST, LEAST, LEAST}};
    for (int[] b : bad) due("index", x.copy(0, b[0], 1, b[1], b[2]), INDEX);
    due("finding", x.count(8), 2);
    due("nothing changed", items(x, 1, 2, 3), "0 0 0 ");
    due("none at the ends", x.copy(0, 5, 1, 3, 0), 1);
    due("copy", x.copy(0, 2, 1, 1, 2), 1);
    due("items", items(x, 1, 2, 3), "0 3 4 ");
    due("upwards in itself", x.copy(0, 0, 0, 1, 4), 1);
    due("items as they were", items(x, 0, 2, 5), "1 1 2 3 4 ");
    due("downwards in itself", x.copy(0, 1, 0, 0, 4), 1);
    due("items as they were", items(x, 0, 2, 5), "1 2 3 4 4 ");
  }

  private static void write() {
    promise = 27;
    OrderTrees x = with(5, set("ab"), set("bc"), set("de"));
    for (int bad : new int[] {-1, 40320, LEAST, MOST}) due("write(" + bad + ", 0)", x.write(bad, 0), -2);
    for (int bad : new int[] {-1, 4, LEAST, MOST}) due("write(0, " + bad + ")", x.write(0, bad), -2);
    due("null, though there is no such row", x.write(8, 0), NULL);
    due("finding", x.count(8), 1);
    for (int form = 0; form < 3; form++) {
      x.sheet(form, form, 7);
      for (int i = 0; i < 7; i++) x.put(form, form, i, 9);
      due("no such row", x.write(8, form), 0);
      due("items", items(x, form, form, 7), "9 9 9 9 9 9 9 ");
      due("row 6", x.write(6, form), 5);
      due("items", items(x, form, form, 7), "3 4 2 1 0 9 9 ");
    }
    x.sheet(3, 0, 2);
    due("as many as there are items", x.write(7, 3), 2);
    due("items", items(x, 3, 0, 2), "4 3 ");
    x.sheet(3, 0, 0);
    due("no items", x.write(0, 3), 0);
  }

  private static void count() {
    promise = 28;
    OrderTrees x = with(7, set("ab"), set("bc"), set("ac"), set("de"));
    tell(x, "abz");
    x.lose(0);
    x.put(0, 0, 0, 0);
    // ([abc](de)fg)
    int[] want = {7, 4, 3, 3, 1, 96, 13, 3, 1};
    for (int what = 0; what < 9; what++) due("count(" + what + ")", x.count(what), want[what]);
    for (int bad : new int[] {-1, 9, LEAST, MOST}) due("count(" + bad + ")", x.count(bad), -2);
    OrderTrees y = with(1);
    int[] one = {1, 0, 0, 0, 0, 1, 1, 0, 0};
    for (int what = 0; what < 9; what++) due("count(" + what + ") of 1", y.count(what), one[what]);
  }

  private static void digest() {
    promise = 29;
    OrderTrees x = new OrderTrees();
    // The one digest that the shared tests tell of.
    tell(x, "ab");
    due("of one with ab told", x.digest(), 3220753129052809373L);
    due("again", x.digest(), 3220753129052809373L);
    x.sheet(0, 0, 3);
    x.lose(1);
    due("sheets and findings are not in it", x.digest(), 3220753129052809373L);
    OrderTrees one = with(1);
    one.group(3);
    one.type('a');
    due("of one thing", one.digest(), byHand(one, 1));
    OrderTrees eight = with(8, set("abc"), set("cde"), set("efg"), set("bf"), set("ah"));
    tell(eight, "abcdefgh");
    due("of eight things", eight.digest(), byHand(eight, 8));
  }

  private static long byHand(OrderTrees x, int n) {
    StringBuilder all = new StringBuilder();
    for (int what = 0; what < 8; what++) all.append(x.count(what)).append(' ');
    for (int i = 0; x.taken(i) >= 0; i++) all.append(x.taken(i)).append(' ').append(x.reason(i)).append(' ');
    all.append(x.many()).append(' ');
    for (int i = -1; i < 40; i++) all.append(x.tree(i)).append(' ');
    for (int i = 0; i < 21; i++) all.append(x.node(i / 3, i % 3)).append(' ');
    for (int i : new int[] {0, 1, 2, 5, 100}) for (int p = 0; p < 8; p++) all.append(x.row(i, p)).append(' ');
    for (int s : new int[] {3, 6, 12, 5, 7, 14}) all.append(x.may(s)).append(' ').append(x.must(s)).append(' ');
    for (int i = 0; i < n * n * 2; i++) all.append(x.apart(i / 2 / n, i / 2 % n, i % 2)).append(' ');
    all.append(x.spare()).append(' ').append(x.fault()).append(' ').append(x.misses()).append(' ').append(x.number());
    long h = 17;
    for (String each : all.toString().split(" ")) h = 31 * h + Long.parseLong(each);
    return h;
  }

  private static void refusalsChangeNothing() {
    OrderTrees x = tell(with(5, set("ab"), set("bc"), set("ac")), "abcde");
    x.sheet(0, 0, 2);
    x.put(0, 0, 1, 5);
    long before = x.digest();
    x.things(0); x.group(1); x.taken(9); x.reason(0); x.reason(9); x.read(1); x.read(4); x.tree(99); x.node(9, 9);
    x.row(-1, 0); x.may(32); x.must(32); x.apart(0, 0, 0); x.type(256); x.sheet(0, 0, -1); x.sheet(0, 9, 1);
    x.lose(1); x.put(0, 1, 0, 1); x.put(0, 0, 2, 1); x.copy(0, 0, 0, 1, 2); x.copy(0, 0, 1, 0, 1); x.write(-1, 0);
    x.write(0, 1); x.count(9);
    promise = 0;
    due("digest behind refusals", x.digest(), before);
    due("items behind refusals", items(x, 0, 0, 2), "0 5 ");
  }

  public static void main(String[] args) {
    newObject(); things(); group(); back(); taken(); reason(); read();
    many(); tree(); node(); rows(); may(); must(); apart(); spare();
    type(); wipe(); undo(); fault(); misses(); number();
    sheet(); lose(); put(); get(); copy(); write(); count(); digest();
    refusalsChangeNothing();
    System.out.println(wrong == 0 ? "all promises are kept" : wrong + " answers are not as promised");
    if (wrong != 0) System.exit(1);
  }
}

import java.lang.management.ManagementFactory;
import java.lang.reflect.Constructor;
import java.lang.reflect.Field;
import java.lang.reflect.Method;
import java.lang.reflect.Modifier;
import java.nio.file.Files;
import java.nio.file.Path;
import java.util.ArrayList;
import java.util.HashMap;
import java.util.List;
import java.util.Map;
import java.util.Random;
import java.util.Set;
import java.util.TreeSet;
import java.util.regex.Matcher;
import java.util.regex.Pattern;

/** The rules of LANGUAGE.md and of the room, as far as a test can see them. */
public final class RulesTest {
  private static final String[] FACE = {"int things(int)", "int group(int)", "int back()", "int taken(int)", "int reason(int)",
    "int read(int)", "long many()", "int tree(int)", "int node(int,int)", "int row(int,int)", "int may(int)", "int must(int)",
    "int apart(int,int,int)", "int spare()", "int type(int)", "int wipe()", "int undo()", "int fault()", "int misses()",
    "int number()", "int sheet(int,int,int)", "int lose(int)", "int put(int,int,int,int)", "int get(int,int,int)",
    "int copy(int,int,int,int,int)", "int write(int,int)", "int count(int)", "long digest()"};
  private static final String[] FORBIDDEN = {"\\bthrow\\b", "\\btry\\b", "\\bcatch\\b", "\\bsynchronized\\b", "\\bassert\\b",
    "\\bpackage\\b", "->", "::", "\\bprotected\\b", "\\bstatic\\s*\\{", "Exact\\b", "\\bMIN_VALUE\\b", "\\bMAX_VALUE\\b",
    "\\bjava\\.", "\\bdouble\\b", "\\bfloat\\b"};
  private static final Set<String> LIBRARY = Set.of("Integer.bitCount", "Math.min", "Math.max", "System.arraycopy");

  private static int wrong = 0;

  private static void check(boolean good, String what) {
    if (good) return;
    wrong++;
    System.out.println("not kept: " + what);
  }

  private static void face() {
    Set<String> methods = new TreeSet<>(), names = new TreeSet<>();
    for (Method m : OrderTrees.class.getDeclaredMethods()) {
      if (Modifier.isPrivate(m.getModifiers())) continue;
      check(Modifier.isPublic(m.getModifiers()) && !Modifier.isStatic(m.getModifiers()), "public: " + m);
      StringBuilder told = new StringBuilder(m.getReturnType() + " " + m.getName() + "(");
      for (Class<?> c : m.getParameterTypes()) told.append(told.charAt(told.length() - 1) == '(' ? "" : ",").append(c);
      methods.add(told + ")");
      names.add(m.getName());
    }
    check(methods.equals(new TreeSet<>(List.of(FACE))), "the methods of the face: " + methods);
    List<Class<?>> classes = new ArrayList<>(List.of(OrderTrees.class.getDeclaredClasses()));
    for (Class<?> c : classes) check(Modifier.isStatic(c.getModifiers()), "static: " + c);
    check(classes.size() < 12, "some twelve classes");
    classes.add(OrderTrees.class);
    for (Class<?> c : classes) {
      for (Method m : c.getDeclaredMethods()) {
        check(c == OrderTrees.class && Modifier.isPublic(m.getModifiers()) || !names.contains(m.getName()), "a name of its own: " + m);
        check(m.getParameterCount() <= 7, "seven parameters: " + m);
      }
      int fields = 0;
      for (Field f : c.getDeclaredFields()) {
        if (!Modifier.isStatic(f.getModifiers())) fields++;
        else check(Modifier.isFinal(f.getModifiers()), "final: " + f);
        boolean constant = Set.of("NONE", "BAD", "NOT", "FULL").contains(f.getName());
        if (c == OrderTrees.class) check(Modifier.isPublic(f.getModifiers()) == constant && (constant || Modifier.isPrivate(f.getModifiers())), "field: " + f);
      }
      check(fields <= 20, "some twenty fields: " + c);
    }
    Constructor<?>[] made = OrderTrees.class.getDeclaredConstructors();
    check(made.length == 1 && Modifier.isPublic(made[0].getModifiers()) && made[0].getParameterCount() == 0, "one constructor");
    check(Modifier.isFinal(OrderTrees.class.getModifiers()) && Modifier.isPublic(OrderTrees.class.getModifiers()), "public and final");
  }

  private static void source() throws Exception {
    String whole = Files.readString(Path.of("src/main/java/OrderTrees.java"));
    for (char c : whole.toCharArray()) check(c == '\n' || c >= 32 && c < 127, "plain signs: " + (int) c);
    String code = whole.replaceAll("(?s)/\\*.*?\\*/", "").replaceAll("//[^\n]*", "");
    for (String word : FORBIDDEN) check(!Pattern.compile(word).matcher(code).find(), "none of " + word);
    Matcher calls = Pattern.compile("\\b(Integer|Long|Math|System|Arrays|String|StringBuilder)\\.\\w+").matcher(code);
    while (calls.find()) check(LIBRARY.contains(calls.group()), "the library: " + calls.group());
    // Whatever is made is made with the object, so that calls fill no room.
    for (String line : code.split("\n")) {
      if (line.matches(".*\\bnew\\b.*")) check(line.matches("\\s*private final [\\w\\[\\]]+ \\w+ = new .*;"), "made with the object: " + line);
    }
    int length = 0;
    String name = "";
    for (String line : whole.split("\n")) {
      if (line.matches("\\s+(public |private |static |)*[\\w\\[\\]]+ \\w+\\([^;]*\\) \\{")) { length = 0; name = line; }
      length++;
      if (line.matches("\\s+\\}") && !name.isEmpty()) check(length <= 62, "some sixty lines: " + name);
      if (line.isEmpty()) name = "";
    }
  }

  /** The document's own face, where the document is there: its calls, their order, the words ahead of them. */
  private static void document() throws Exception {
    Path path = Path.of("../shared/DOC.md");
    if (!Files.isReadable(path)) { System.out.println("the document is not there, so that its face is not looked at"); return; }
    String document = Files.readString(path);
    String face = document.substring(document.indexOf("```java") + 7, document.indexOf("## Terms"));
    String whole = Files.readString(Path.of("src/main/java/OrderTrees.java"));
    Matcher parts = Pattern.compile("public [^;{]+").matcher(face);
    int at = 0, found = 0;
    while (parts.find()) {
      int next = whole.indexOf(parts.group().trim(), at);
      check(next >= at, "of the document's face, in its order: " + parts.group().trim());
      at = Math.max(next, at);
      found++;
    }
    check(found == FACE.length + 3, "all of the document's face: " + found);
    Matcher words = Pattern.compile("Ahead of the calls `(\\w+)`.*, `(\\w+)` the interface says: (---- [\\w, ]+)\\.").matcher(document);
    int sections = 0;
    for (int last = 0; words.find(); sections++) {
      int said = whole.indexOf("// " + words.group(3) + "\n"), first = whole.indexOf(" " + words.group(1) + "(int");
      if (first < 0) first = whole.indexOf(" " + words.group(1) + "()");
      check(said > last && said < first, "ahead of " + words.group(1) + ": " + words.group(3));
      last = whole.indexOf(" " + words.group(2) + "(", said);
    }
    check(sections == 4, "four times words ahead of calls: " + sections);
  }

  // ---- which method calls which, by their names (no two classes have one in common)

  private static Map<String, Set<String>> callGraph() throws Exception {
    String code = Files.readString(Path.of("src/main/java/OrderTrees.java")).replaceAll("(?s)/\\*.*?\\*/", "").replaceAll("//[^\n]*", "");
    Map<String, String> bodies = new HashMap<>();
    Matcher heads = Pattern.compile("(?m)^ +(?:public |private |static )*(?:[\\w\\[\\]]+ )?(\\w+)\\([\\w\\[\\], ]*\\) \\{$").matcher(code);
    while (heads.find()) {
      int end = heads.end();
      for (int depth = 1; depth > 0 && end < code.length(); end++) depth += code.charAt(end) == '{' ? 1 : code.charAt(end) == '}' ? -1 : 0;
      check(bodies.put(heads.group(1), code.substring(heads.end(), end)) == null, "a name for each method: " + heads.group(1));
    }
    Map<String, Set<String>> graph = new HashMap<>();
    for (String name : bodies.keySet()) {
      Set<String> called = new TreeSet<>();
      Matcher calls = Pattern.compile("(?<!new )\\b(\\w+)\\(").matcher(bodies.get(name));
      while (calls.find()) if (bodies.containsKey(calls.group(1))) called.add(calls.group(1));
      graph.put(name, called);
    }
    return graph;
  }

  private static int depthOf(String name, Map<String, Set<String>> graph, List<String> open) {
    if (open.contains(name)) {
      check(name.equals("place") && open.get(open.size() - 1).equals(name), "only place() calls itself: " + open + " " + name);
      return 0;
    }
    open.add(name);
    int deepest = 0;
    for (String called : graph.get(name)) deepest = Math.max(deepest, depthOf(called, graph, open));
    open.remove(open.size() - 1);
    return deepest + 1;
  }

  private static void callDepth() throws Exception {
    Map<String, Set<String>> graph = callGraph();
    for (Method m : OrderTrees.class.getDeclaredMethods()) check(graph.containsKey(m.getName()), "found in the source: " + m.getName());
    for (String name : graph.keySet()) {
      int depth = depthOf(name, graph, new ArrayList<>());
      check(depth <= 8, "calls go at most eight deep: " + name + "() goes " + depth);
    }
  }

  /** Any arguments in any state, far behind the 512th call, too. */
  private static void neverThrows() throws Exception {
    int[] edges = {Integer.MIN_VALUE, -61, -9, -2, -1, 0, 1, 2, 3, 4, 5, 6, 7, 8, 9, 12, 24, 39, 40, 59, 60, 61, 96, 97, 104, 129, 192, 255, 256, 40319,
      40320, Integer.MAX_VALUE};
    Method[] calls = java.util.Arrays.stream(OrderTrees.class.getMethods()).filter(m -> m.getDeclaringClass() == OrderTrees.class)
      .sorted(java.util.Comparator.comparing(Method::getName)).toArray(Method[]::new);
    Random r = new Random(29);
    OrderTrees x = new OrderTrees();
    for (int i = 0; i < 200000; i++) {
      Method call = calls[r.nextInt(calls.length)];
      Object[] arguments = new Object[call.getParameterCount()];
      for (int k = 0; k < arguments.length; k++) arguments[k] = r.nextInt(3) > 0 ? r.nextInt(9) : edges[r.nextInt(edges.length)];
      try {
        call.invoke(x, arguments);
      } catch (java.lang.reflect.InvocationTargetException e) {
        check(false, "no call throws: " + call.getName() + java.util.Arrays.toString(arguments) + " threw " + e.getCause());
        return;
      }
    }
  }

  private static void room() {
    com.sun.management.ThreadMXBean bean = (com.sun.management.ThreadMXBean) ManagementFactory.getThreadMXBean();
    long sum = work(new OrderTrees());
    OrderTrees x = new OrderTrees();
    long before = bean.getThreadAllocatedBytes(Thread.currentThread().getId());
    sum += work(x);
    long used = bean.getThreadAllocatedBytes(Thread.currentThread().getId()) - before;
    check(used < 20000, "calls make nothing that stays: " + used + " bytes, " + sum);
  }

  private static long work(OrderTrees x) {
    long sum = x.things(8);
    for (int i = 0; i < 100; i++) {
      sum += x.group(3 << i % 7 | i) + x.reason(i % 10) + x.spare() + x.may(i) + x.digest() + x.sheet(i % 4, i % 3, i % 60) + x.write(i, i % 4);
      if (i % 11 == 0) sum += x.back();
    }
    return sum;
  }

  public static void main(String[] args) throws Exception {
    face();
    source();
    document();
    callDepth();
    neverThrows();
    room();
    System.out.println(wrong == 0 ? "all rules are kept" : wrong + " rules are not kept");
    if (wrong != 0) System.exit(1);
  }
}

import java.lang.management.ManagementFactory;
import java.lang.reflect.Constructor;
import java.lang.reflect.Field;
import java.lang.reflect.Method;
import java.lang.reflect.Modifier;
import java.nio.file.Files;
import java.nio.file.Path;
import java.util.ArrayList;
import java.util.List;
import java.util.Set;
import java.util.TreeSet;
import java.util.regex.Matcher;
import java.util.regex.Pattern;

/** The rules of LANGUAGE.md and of the room, as far as a test can see them. */
public final class RulesTest {
  private static final String[] FACE = {"int things(int)", "int group(int)", "int back()", "int taken(int)", "int reason(int)",
    "int read(int)", "long many()", "int tree(int)", "int node(int,int)", "int row(int,int)", "int may(int)", "int must(int)",
    "int apart(int,int,int)", "int spare()", "int type(int)", "int wipe()", "int undo()", "int fault()", "int misses()",
    "int number()", "int sheet(int,int,int)", "int lose(int)", "int put(int,int,int,int)", "int get(int,int,int)",
    "int copy(int,int,int,int,int)", "int write(int,int)", "int count(int)", "long digest()"};
  private static final String[] FORBIDDEN = {"\\bthrow\\b", "\\btry\\b", "\\bcatch\\b", "\\bsynchronized\\b", "\\bassert\\b",
    "\\bpackage\\b", "->", "::", "\\bprotected\\b", "\\bstatic\\s*\\{", "Exact\\b", "\\bMIN_VALUE\\b", "\\bMAX_VALUE\\b",
    "\\bjava\\.", "\\bdouble\\b", "\\bfloat\\b"};
  private static final Set<String> LIBRARY = Set.of("Integer.bitCount", "Math.min", "Math.max", "System.arraycopy");

  private static int wrong = 0;

  private static void check(boolean good, String what) {
    if (good) return;
    wrong++;
    System.out.println("not kept: " + what);
  }

  private static void face() {
    Set<String> methods = new TreeSet<>(), names = new TreeSet<>();
    for (Method m : OrderTrees.class.getDeclaredMethods()) {
      if (Modifier.isPrivate(m.getModifiers())) continue;
      check(Modifier.isPublic(m.getModifiers()) && !Modifier.isStatic(m.getModifiers()), "public: " + m);
      StringBuilder told = new StringBuilder(m.getReturnType() + " " + m.getName() + "(");
      for (Class<?> c : m.getParameterTypes()) told.append(told.charAt(told.length() - 1) == '(' ? "" : ",").append(c);
      methods.add(told + ")");
      names.add(m.getName());
    }
    check(methods.equals(new TreeSet<>(List.of(FACE))), "the methods of the face: " + methods);
    List<Class<?>> classes = new ArrayList<>(List.of(OrderTrees.class.getDeclaredClasses()));
    for (Class<?> c : classes) check(Modifier.isStatic(c.getModifiers()), "static: " + c);
    check(classes.size() < 12, "some twelve classes");
    classes.add(OrderTrees.class);
    for (Class<?> c : classes) {
      for (Method m : c.getDeclaredMethods()) {
        check(c == OrderTrees.class && Modifier.isPublic(m.getModifiers()) || !names.contains(m.getName()), "a name of its own: " + m);
        check(m.getParameterCount() <= 7, "seven parameters: " + m);
      }
      int fields = 0;
      for (Field f : c.getDeclaredFields()) {
        if (!Modifier.isStatic(f.getModifiers())) fields++;
        else check(Modifier.isFinal(f.getModifiers()), "final: " + f);
        boolean constant = Set.of("NONE", "BAD", "NOT", "FULL").contains(f.getName());
        if (c == OrderTrees.class) check(Modifier.isPublic(f.getModifiers()) == constant && (constant || Modifier.isPrivate(f.getModifiers())), "field: " + f);
      }
      check(fields <= 20, "some twenty fields: " + c);
    }
    Constructor<?>[] made = OrderTrees.class.getDeclaredConstructors();
    check(made.length == 1 && Modifier.isPublic(made[0].getModifiers()) && made[0].getParameterCount() == 0, "one constructor");
    check(Modifier.isFinal(OrderTrees.class.getModifiers()) && Modifier.isPublic(OrderTrees.class.getModifiers()), "public and final");
  }

  private static void source() throws Exception {
    String whole = Files.readString(Path.of("src/main/java/OrderTrees.java"));
    for (char c : whole.toCharArray()) check(c == '\n' || c >= 32 && c < 127, "plain signs: " + (int) c);
    String code = whole.replaceAll("(?s)/\\*.*?\\*/", "").replaceAll("//[^\n]*", "");
    for (String word : FORBIDDEN) check(!Pattern.compile(word).matcher(code).find(), "none of " + word);
    Matcher calls = Pattern.compile("\\b(Integer|Long|Math|System|Arrays|String|StringBuilder)\\.\\w+").matcher(code);
    while (calls.find()) check(LIBRARY.contains(calls.group()), "the library: " + calls.group());
    // Whatever is made is made with the object, so that calls fill no room.
    for (String line : code.split("\n")) {
      if (line.matches(".*\\bnew\\b.*")) check(line.matches("\\s*private final [\\w\\[\\]]+ \\w+ = new .*;"), "made with the object: " + line);
    }
    int length = 0;
    String name = "";
    for (String line : whole.split("\n")) {
      if (line.matches("\\s+(public |private |static |)*[\\w\\[\\]]+ \\w+\\([^;]*\\) \\{")) { length = 0; name = line; }
      length++;
      if (line.matches("\\s+\\}") && !name.isEmpty()) check(length <= 62, "some sixty lines: " + name);
      if (line.isEmpty()) name = "";
    }
  }

  private static void room() {
    com.sun.management.ThreadMXBean bean = (com.sun.management.ThreadMXBean) ManagementFactory.getThreadMXBean();
    long sum = work(new OrderTrees());
    OrderTrees x = new OrderTrees();
    long before = bean.getThreadAllocatedBytes(Thread.currentThread().getId());
    sum += work(x);
    long used = bean.getThreadAllocatedBytes(Thread.currentThread().getId()) - before;
    check(used < 20000, "calls make nothing that stays: " + used + " bytes, " + sum);
  }

  private static long work(OrderTrees x) {
    long sum = x.things(8);
    for (int i = 0; i < 100; i++) {
      sum += x.group(3 << i % 7 | i) + x.reason(i % 10) + x.spare() + x.may(i) + x.digest() + x.sheet(i % 4, i % 3, i % 60) + x.write(i, i % 4);
      if (i % 11 == 0) sum += x.back();
    }
    return sum;
  }

  public static void main(String[] args) throws Exception {
    face();
    source();
    room();
    System.out.println(wrong == 0 ? "all rules are kept" : wrong + " rules are not kept");
    if (wrong != 0) System.exit(1);
  }
}

import java.lang.reflect.InvocationTargetException;
import java.lang.reflect.Method;
import java.util.ArrayList;
import java.util.Arrays;
import java.util.HashMap;
import java.util.List;
import java.util.Map;
import java.util.stream.Collectors;

/** One call with the answer that is due; read from the lines of a script. */
final class Step {
  private static final Map<String, Integer> NAMES = Map.ofEntries(
    Map.entry("NONE", -1), Map.entry("BAD", -2), Map.entry("NOT", -3), Map.entry("FULL", -4),
    Map.entry("NULL", -11), Map.entry("INDEX", -12), Map.entry("CAST", -13), Map.entry("STORE", -14), Map.entry("SIZE", -15),
    Map.entry("LEAST", Integer.MIN_VALUE), Map.entry("MOST", Integer.MAX_VALUE));
  private static final Map<Class<?>, Map<String, Method>> METHODS = new HashMap<>();

  final String name;
  final Object[] arguments;
  /** Null: any answer is right. */
  final Long due;

  private Step(String name, Long due, int... arguments) {
    this.name = name;
    this.due = due;
    this.arguments = Arrays.stream(arguments).boxed().toArray();
  }

  long call(Object target) {
    Map<String, Method> known = METHODS.computeIfAbsent(target.getClass(), Step::methodsOf);
    try {
      return ((Number) known.get(name).invoke(target, arguments)).longValue();
    } catch (IllegalAccessException | InvocationTargetException e) {
      throw new IllegalStateException(toString(), e);
    }
  }

  private static Map<String, Method> methodsOf(Class<?> owner) {
    Map<String, Method> known = new HashMap<>();
    for (Method m : owner.getDeclaredMethods()) known.merge(m.getName(), m, (a, b) -> a.getParameterCount() > b.getParameterCount() ? a : b);
    return known;
  }

  @Override public String toString() {
    return name + Arrays.stream(arguments).map(String::valueOf).collect(Collectors.joining(", ", "(", ")"));
  }

  // ---- how a script is read

  /**
   * A line is a call and its answer, perhaps so many times ("10 x group(ab) = 1"), or one of these,
   * which stand for several calls: "shown = (ab)", "row 3 = ba" (or none), "told ab" (wiped ahead),
   * "type ab = 2", "items 0 2 = 7 8" (SHEET, FORM).
   */
  static List<Step> script(String text) {
    List<Step> steps = new ArrayList<>();
    for (String line : text.split("[\n;]")) {
      String told = line.replaceAll("#.*", "").trim();
      if (!told.isEmpty()) read(told, steps);
    }
    return steps;
  }

  private static void read(String line, List<Step> steps) {
    String[] sides = line.split("\\s*=\\s*", 2);
    String[] words = sides[0].split("\\s+");
    String due = sides.length > 1 ? sides[1].trim() : "any";
    switch (words[0]) {
      case "shown" -> shown(due, steps);
      case "row" -> row(value(words[1]), due, steps);
      case "told" -> { steps.add(new Step("wipe", null)); type(words[1], null, steps); }
      case "type" -> type(words[1], answer(due), steps);
      case "items" -> items(value(words[1]), value(words[2]), due, steps);
      default -> calls(sides[0], due, steps);
    }
  }

  private static void calls(String told, String due, List<Step> steps) {
    String call = told.replaceAll("^\\d+ x ", "");
    int times = call.equals(told) ? 1 : Integer.parseInt(told.substring(0, told.indexOf(' ')));
    int open = call.indexOf('(');
    String inside = call.substring(open + 1, call.indexOf(')')).trim();
    int[] arguments = inside.isEmpty() ? new int[0] : Arrays.stream(inside.split("\\s*,\\s*")).mapToInt(Step::value).toArray();
    for (int i = 0; i < times; i++) steps.add(new Step(call.substring(0, open).trim(), answer(due), arguments));
  }

  private static void shown(String text, List<Step> steps) {
    steps.add(new Step("tree", (long) text.length(), -1));
    steps.add(new Step("count", (long) text.length(), 6));
    for (int i = 0; i <= text.length(); i++) steps.add(new Step("tree", i < text.length() ? text.charAt(i) : -1L, i));
  }

  private static void row(int number, String text, List<Step> steps) {
    String things = text.equals("none") ? "" : text;
    for (int p = 0; p <= Math.min(things.length(), 7); p++) steps.add(new Step("row", p < things.length() ? things.charAt(p) - 'a' : -1L, number, p));
  }

  private static void type(String text, Long due, List<Step> steps) {
    for (int i = 0; i < text.length(); i++) steps.add(new Step("type", i == text.length() - 1 ? due : null, text.charAt(i)));
  }

  private static void items(int sheet, int form, String text, List<Step> steps) {
    String[] values = text.split("\\s+");
    for (int i = 0; i < values.length; i++) steps.add(new Step("get", answer(values[i]), sheet, form, i));
  }

  /** A number, a name, a sign in quotes, or THINGS by their letters, as bits. */
  private static int value(String told) {
    if (NAMES.containsKey(told)) return NAMES.get(told);
    if (told.startsWith("'")) return told.charAt(1);
    if (!told.matches("[a-h]+")) return Integer.parseInt(told);
    int bits = 0;
    for (char c : told.toCharArray()) bits |= 1 << c - 'a';
    return bits;
  }

  /** Beside a value: any, and GROUPS by their numbers, as bits, such as {0 2}. */
  private static Long answer(String told) {
    if (told.equals("any")) return null;
    if (told.matches("-?\\d+")) return Long.parseLong(told);
    if (!told.startsWith("{")) return (long) value(told);
    long bits = 0;
    for (String each : told.replaceAll("[{}]", "").trim().split("\\s+")) bits |= 1L << Integer.parseInt(each);
    return bits;
  }
}

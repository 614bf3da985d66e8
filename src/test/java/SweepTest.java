import java.util.ArrayList;
import java.util.List;

/** Every call with every mixture of arguments at and beside their edges, in several states, held against the model. */
public final class SweepTest {
  private static final String[] STATES = {
    "",
    "things(1); group(ab); group(gh); type a; sheet(0, 0, 0)",
    "group(ab); group(bc); group(ac); group(gh); type abcde; sheet(0, 0, 60); sheet(1, 1, 2); sheet(2, 2, 2); put(2, 2, 0, 24); put(2, 2, 1, 5)",
    "things(8); group(abc); group(cde); group(efg); group(bf); 6 x group(gh); type abcdefgh; sheet(0, 2, 60); sheet(1, 2, 60); sheet(2, 0, 1); sheet(3, 1, 0)"};

  private static final int LEAST = Integer.MIN_VALUE, MOST = Integer.MAX_VALUE;
  private static final int[] THINGS = {LEAST, -1, 0, 1, 4, 5, 7, 8, MOST};
  private static final int[] NUMBERS = {LEAST, -1, 0, 1, 2, 3, 4, 7, 8, 9, 10, MOST};
  private static final int[] GROUPS = {LEAST, -1, 0, 1, 3, 4, 9, 10, MOST};
  private static final int[] SETS = {LEAST, -1, 0, 1, 2, 3, 5, 31, 32, 33, 127, 128, 129, 192, 254, 255, 256, 257, 768, MOST};
  private static final int[] SIGNS = {LEAST, -2, -1, 0, 1, 6, 7, 8, 21, 22, 38, 39, 40, MOST};
  private static final int[] NODES = {LEAST, -1, 0, 1, 2, 5, 6, 7, MOST};
  private static final int[] ROWS = {LEAST, -1, 0, 1, 11, 12, 119, 120, 40318, 40319, 40320, MOST};
  private static final int[] WHAT = {LEAST, -1, 0, 1, 2, 3, MOST};
  private static final int[] BYTES = {LEAST, -1, 0, 96, 97, 101, 102, 104, 105, 255, 256, MOST};
  private static final int[] SHEETS = {LEAST, -1, 0, 1, 2, 3, 4, MOST};
  private static final int[] FORMS = {-1, 0, 1, 2, 3};
  private static final int[] SIZES = {LEAST, -1, 0, 1, 59, 60, 61, MOST};
  private static final int[] ITEMS = {LEAST, -1, 0, 1, 2, 59, 60, 61, MOST};
  private static final int[] VALUES = {LEAST, -129, -1, 128, 32768, MOST};
  private static final int[] FEW_SHEETS = {-1, 0, 1, 2, 3, 4};
  private static final int[] FEW_ITEMS = {LEAST, -1, 0, 1, 2, 60, 61, MOST};

  // Each step is two calls, and behind the last one there are some 170: an object has 512.
  private static final int MOST_STEPS = 140;

  private static OrderTrees x;
  private static Model m;
  private static String state = "";
  private static int calls = 0;
  private static int sinceBegin = 0;
  private static int wrong = 0;

  private static void due(String what, long got, long want) {
    if (got == want) return;
    wrong++;
    if (wrong <= 20) System.out.println("behind " + state + ": " + what + " answered " + got + ", due is " + want);
  }

  private static void begin() {
    sinceBegin = 0;
    x = new OrderTrees();
    m = new Model();
    for (Step step : Step.script(state)) due(step.toString(), step.call(x), step.call(m));
  }

  /** A call, with all mixtures of its arguments; after one that changed something the state is made anew. */
  private static void sweep(boolean changes, String name, int[]... choices) {
    begin();
    for (String arguments : mixtures(choices)) {
      Step step = Step.script(name + "(" + arguments + ")").get(0);
      long got = step.call(x);
      due(step.toString(), got, step.call(m));
      due("count(8) behind " + step, x.count(8), m.count(8));
      calls++;
      sinceBegin++;
      if (changes && got >= 0 || sinceBegin == MOST_STEPS) {
        hold(step);
        begin();
      }
    }
    hold(null);
  }

  private static void hold(Step behind) {
    due("digest() behind " + behind, x.digest(), m.digest());
    sameSheets(behind);
  }

  private static List<String> mixtures(int[][] choices) {
    List<String> all = new ArrayList<>(List.of(""));
    for (int[] choice : choices) {
      List<String> longer = new ArrayList<>();
      for (String ahead : all) for (int each : choice) longer.add(ahead.isEmpty() ? "" + each : ahead + ", " + each);
      all = longer;
    }
    return all;
  }

  private static void sameSheets(Step behind) {
    for (int s = 0; s < 4; s++) for (int form = 0; form < 3; form++) for (int i : new int[] {0, 1, 2, 7, 8, 58, 59}) {
      due("get(" + s + ", " + form + ", " + i + ") behind " + behind, x.get(s, form, i), m.get(s, form, i));
      due("count(8) behind it", x.count(8), m.count(8));
    }
  }

  private static void sweepAll() {
    sweep(true, "things", NUMBERS);
    sweep(true, "group", SETS);
    sweep(true, "back");
    sweep(false, "taken", GROUPS);
    sweep(false, "reason", GROUPS);
    sweep(true, "read", SHEETS);
    sweep(false, "tree", SIGNS);
    sweep(false, "node", NODES, WHAT);
    sweep(false, "row", ROWS, THINGS);
    sweep(false, "may", SETS);
    sweep(false, "must", SETS);
    sweep(false, "apart", THINGS, THINGS, WHAT);
    sweep(true, "type", BYTES);
    sweep(true, "wipe");
    sweep(true, "undo");
    sweep(true, "sheet", SHEETS, FORMS, SIZES);
    sweep(true, "lose", SHEETS);
    sweep(true, "put", SHEETS, FORMS, ITEMS, VALUES);
    sweep(false, "get", SHEETS, FORMS, ITEMS);
    sweep(true, "copy", FEW_SHEETS, FEW_ITEMS, FEW_SHEETS, FEW_ITEMS, FEW_ITEMS);
    sweep(true, "write", ROWS, SHEETS);
    sweep(false, "count", NUMBERS);
  }

  public static void main(String[] args) {
    for (String each : STATES) {
      state = each;
      sweepAll();
    }
    System.out.println(wrong == 0 ? calls + " calls are as the model has them" : wrong + " answers are not as the model has them");
    if (wrong != 0) System.exit(1);
  }
}

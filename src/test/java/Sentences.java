import java.io.IOException;
import java.nio.file.Files;
import java.nio.file.Path;
import java.util.ArrayList;
import java.util.BitSet;
import java.util.HashMap;
import java.util.List;
import java.util.Map;
import java.util.Set;

/**
 * Sentences of the document, each with a script of calls of its own. The answers due are held against
 * the class and against the model; each refusal is looked at for whether it changed anything; and at
 * the end no word of the document may be left that no script is for.
 */
final class Sentences {
  private static final Path DOCUMENT = Path.of("../shared/DOC.md");
  /** What stands ahead of the promises. */
  static final int TERMS = 0;
  private static final int PROMISES = 29;
  private static final int MOST_CALLS = 512;

  private static final Set<String> QUESTIONS = Set.of("taken", "reason", "many", "tree", "node", "row", "may", "must", "apart",
    "spare", "fault", "misses", "number", "get", "count", "digest");

  private final Map<Integer, List<String>> quoted = new HashMap<>();
  private String place = "";
  private int scripts = 0;
  private int refusals = 0;
  private int wrong = 0;

  /** A sentence of a promise, or of the terms, and calls on a new object that show whether it holds. */
  void says(int promise, String sentence, String script) {
    place = (promise == TERMS ? "terms" : "promise " + promise) + ", \"" + sentence + "\"";
    quoted.computeIfAbsent(promise, p -> new ArrayList<>()).add(sentence);
    scripts++;
    run(Step.script(script));
  }

  void due(String what, long got, long want) {
    if (got != want) tell(what + " answered " + got + ", due is " + want);
  }

  private void tell(String what) {
    wrong++;
    if (wrong <= 40) System.out.println(place + ":\n    " + what);
  }

  private void run(List<Step> steps) {
    OrderTrees x = new OrderTrees();
    Model m = new Model();
    List<Step> changes = new ArrayList<>();
    StringBuilder calls = new StringBuilder();
    int finding = 0;
    for (Step step : steps) {
      long got = step.call(x), model = step.call(m);
      calls.append(calls.length() > 0 ? " " : "").append(step);
      if (step.due != null) due(shortened(calls), got, step.due);
      due("by the model " + shortened(calls), model, step.due == null ? got : step.due);
      finding = findingDue(step, got, finding, m);
      due("count(8) behind " + shortened(calls), x.count(8), finding);
      if (isRefusal(step, got)) holdStill(step, changes, shortened(calls));
      else if (!QUESTIONS.contains(step.name)) changes.add(step);
    }
    due("digest() behind questions and refusals " + shortened(calls), x.digest(), lived(changes).digest());
    // Nothing is promised of later calls, so that no script may go on so far.
    if (2 * steps.size() + 1 > MOST_CALLS) tell("the script is too long: " + steps.size() + " calls and as many of count(8)");
  }

  private static String shortened(StringBuilder calls) {
    return calls.length() <= 400 ? calls.toString() : ".. " + calls.substring(calls.length() - 400);
  }

  /** Only FINDINGS change it; of those of get() the answer does not tell which one it was. */
  private static int findingDue(Step step, long got, int before, Model m) {
    if (step.name.equals("get")) return m.count(8);
    boolean found = !QUESTIONS.contains(step.name) && got <= -11 && got >= -15;
    return found ? (int) (-10 - got) : before;
  }

  private static boolean isRefusal(Step step, long got) {
    if (step.name.equals("get")) return got == Integer.MIN_VALUE;
    return !step.name.equals("digest") && got < -1;
  }

  private void holdStill(Step refused, List<Step> changes, String calls) {
    refusals++;
    OrderTrees refusing = lived(changes);
    refused.call(refusing);
    if (!Portrait.of(refusing).equals(Portrait.of(lived(changes)))) tell("the refusal changed something: " + calls);
  }

  private static OrderTrees lived(List<Step> changes) {
    OrderTrees x = new OrderTrees();
    for (Step step : changes) step.call(x);
    return x;
  }

  // ---- the document

  /** False: something was wrong. */
  boolean end() throws IOException {
    if (Files.isReadable(DOCUMENT)) holdAgainstDocument(Files.readString(DOCUMENT));
    else System.out.println("the document is not there, so that its words are not looked at");
    System.out.println(wrong == 0 ? scripts + " scripts of sentences are kept, " + refusals + " refusals changed nothing"
      : wrong + " things are not as the document has them");
    return wrong == 0;
  }

  private void holdAgainstDocument(String document) {
    place = "the document";
    String body = document.substring(document.indexOf("Consecutive"), document.indexOf("## Not promised"))
      .replaceAll("(?s)## The public face.*?## Terms", "")
      .replaceAll("```(text)?", "")
      .replaceAll("======== \\d", "")
      .replaceAll("(?m)^Ahead of the calls .*$", "");
    String[] parts = body.split("(?m)^## Promise \\d+: .*$");
    due("how many promises", parts.length - 1, PROMISES);
    for (int i = 0; i < parts.length; i++) holdPart(i, parts[i].replaceAll("(?m)^`[^`]*`: ", "").replaceAll("\\s+", " "));
  }

  private void holdPart(int promise, String text) {
    place = promise == TERMS ? "terms" : "promise " + promise;
    BitSet covered = new BitSet();
    for (String sentence : quoted.getOrDefault(promise, List.of())) {
      int at = text.indexOf(sentence);
      if (at < 0) tell("these words are not in the document: " + sentence);
      while (at >= 0) {
        covered.set(at, at + sentence.length());
        at = text.indexOf(sentence, at + 1);
      }
    }
    StringBuilder left = new StringBuilder();
    for (int i = 0; i < text.length(); i++) left.append(covered.get(i) ? ' ' : text.charAt(i));
    if (left.toString().matches("(?s).*\\w.*")) tell("words without a test: " + left.toString().replaceAll("\\s+", " ").trim());
  }
}

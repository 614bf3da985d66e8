import java.io.IOException;
import java.lang.reflect.Method;
import java.net.URL;
import java.net.URLClassLoader;
import java.nio.file.Files;
import java.nio.file.Path;
import java.util.ArrayList;
import java.util.List;
import java.util.Map;
import java.util.Set;
import java.util.TreeSet;
import java.util.regex.Matcher;
import java.util.regex.Pattern;
import java.util.stream.Stream;
import javax.tools.JavaCompiler;
import javax.tools.ToolProvider;

/**
 * The calls that README.md shows, compiled as they stand there and held against the answers that it
 * tells behind them. A line has as many answers as calls: "x.type('a'); x.type('b');  // 1, 2: why".
 */
public final class ReadmeTest {
  private static final Path README = Path.of("README.md");
  private static final String ANSWER = "(?:-?\\d+|\"[^\"]*\"|[A-Z]+\\b)";
  private static final Pattern ANSWERS = Pattern.compile("(" + ANSWER + "(?:, " + ANSWER + ")*)(?::.*)?");
  private static final Pattern CALL = Pattern.compile("\\bx\\.(\\w+)\\(");
  private static final Map<String, String> NAMES = Map.of("NONE", "OrderTrees.NONE", "BAD", "OrderTrees.BAD", "NOT", "OrderTrees.NOT",
    "FULL", "OrderTrees.FULL", "LEAST", "Integer.MIN_VALUE");
  /** What README.md must show at least once: every name of a refusal, and every FINDING by its number. */
  private static final Set<String> SHOWN_ANSWERS = Set.of("NONE", "BAD", "NOT", "FULL", "LEAST", "-11", "-12", "-13", "-14", "-15");

  private static final StringBuilder members = new StringBuilder();
  private static final StringBuilder runs = new StringBuilder();
  private static final Set<String> calls = new TreeSet<>();
  private static final Set<String> answersTold = new TreeSet<>();
  private static int held = 0;
  private static int wrong = 0;

  private static void tell(String what) {
    wrong++;
    System.out.println("README.md " + what);
  }

  private static void check(boolean good, String what) {
    if (!good) tell(what);
  }

  // ---- from its text to a program

  private static void translate(List<String> lines) {
    boolean code = false, ownMethods = false;
    for (int i = 0; i < lines.size(); i++) {
      String line = lines.get(i);
      if (line.startsWith("```")) {
        code = line.equals("```java");
        ownMethods = code && i + 1 < lines.size() && lines.get(i + 1).startsWith("static ");
        if (code && !ownMethods) runs.append("{\n");
        if (!code && runs.length() > 0 && !runs.toString().endsWith("}\n")) runs.append("}\n");
      } else if (code && ownMethods) {
        members.append(line).append('\n');
      } else if (code && !line.isBlank()) {
        translateLine(i + 1, line);
      }
    }
  }

  private static void translateLine(int number, String line) {
    String[] sides = line.split("//", 2);
    Matcher found = CALL.matcher(sides[0]);
    while (found.find()) calls.add(found.group(1));
    if (sides[0].trim().matches("OrderTrees \\w+ = new OrderTrees\\(\\);")) {
      runs.append(sides[0]).append('\n');
      return;
    }
    String[] statements = sides[0].trim().split(";\\s*");
    List<String> answers = answers(sides.length > 1 ? sides[1].trim() : "");
    if (answers.size() != statements.length) {
      tell("line " + number + ": " + statements.length + " calls, but " + answers.size() + " answers: " + line.trim());
      return;
    }
    for (int k = 0; k < statements.length; k++) {
      answersTold.add(answers.get(k));
      held++;
      runs.append("due(").append(number).append(", ").append(quoted(statements[k])).append(", ").append(statements[k]).append(", ")
        .append(value(answers.get(k))).append(");\n");
    }
  }

  private static List<String> answers(String comment) {
    List<String> all = new ArrayList<>();
    Matcher told = ANSWERS.matcher(comment);
    if (!told.matches()) return all;
    Matcher each = Pattern.compile(ANSWER).matcher(told.group(1));
    while (each.find()) all.add(each.group());
    return all;
  }

  private static String value(String answer) {
    if (answer.startsWith("\"")) return answer;
    return NAMES.getOrDefault(answer, answer + "L");
  }

  private static String quoted(String text) { return "\"" + text.replace("\\", "\\\\").replace("\"", "\\\"") + "\""; }

  // ---- the program

  private static int run(Path out) throws Exception {
    String program = "public final class ReadmeRuns {\nprivate static int wrong = 0;\n" + members
      + "private static void due(int line, String call, Object got, Object want) {\n"
      + "boolean same = got instanceof Number a && want instanceof Number b ? a.longValue() == b.longValue() : got.equals(want);\n"
      + "if (!same) { wrong++; System.out.println(\"README.md line \" + line + \": \" + call + \" answered \" + got + \", it tells \" + want); }\n}\n"
      + "public static int run() {\n" + runs + "return wrong;\n}\n}\n";
    Path source = out.resolve("ReadmeRuns.java");
    Files.writeString(source, program);
    JavaCompiler compiler = ToolProvider.getSystemJavaCompiler();
    if (compiler == null) { tell("cannot be looked at: there is no compiler"); return 0; }
    String path = System.getProperty("java.class.path");
    if (compiler.run(null, System.out, System.out, "-encoding", "UTF-8", "-cp", path, "-d", out.toString(), source.toString()) != 0) {
      tell("shows calls that are no Java");
      return 0;
    }
    try (URLClassLoader loader = new URLClassLoader(new URL[] {out.toUri().toURL()}, ReadmeTest.class.getClassLoader())) {
      return (Integer) loader.loadClass("ReadmeRuns").getMethod("run").invoke(null);
    }
  }

  // ---- what it must not leave out

  private static void holdWhole(String text) throws IOException {
    Set<String> face = new TreeSet<>();
    for (Method m : OrderTrees.class.getMethods()) if (m.getDeclaringClass() == OrderTrees.class) face.add(m.getName());
    face.removeAll(calls);
    check(face.isEmpty(), "shows no call of " + face);
    Set<String> missing = new TreeSet<>(SHOWN_ANSWERS);
    missing.removeAll(answersTold);
    check(missing.isEmpty(), "shows no call that answers " + missing);
    check(text.contains(".ci/run"), "does not say how to run the tests");
    try (Stream<Path> tests = Files.list(Path.of("src/test/java"))) {
      for (Path test : (Iterable<Path>) tests::iterator) {
        String name = test.getFileName().toString().replace(".java", "");
        if (name.endsWith("Test")) check(text.contains("`" + name + "`"), "does not say what " + name + " is");
      }
    }
    Matcher named = Pattern.compile("`(\\w+(?:Test|Edges))`").matcher(text);
    while (named.find()) check(Files.exists(Path.of("src/test/java", named.group(1) + ".java")), "names a test that there is not: " + named.group(1));
  }

  private static void remove(Path out) throws IOException {
    try (Stream<Path> files = Files.list(out)) {
      for (Path file : (Iterable<Path>) files::iterator) Files.delete(file);
    }
    Files.delete(out);
  }

  public static void main(String[] args) throws Exception {
    translate(Files.readAllLines(README));
    holdWhole(Files.readString(README));
    Path out = Files.createTempDirectory("readme");
    try {
      wrong += run(out);
    } finally {
      remove(out);
    }
    System.out.println(wrong == 0 ? held + " calls of README.md answer as it tells" : wrong + " things of README.md are not so");
    if (wrong != 0) System.exit(1);
  }
}

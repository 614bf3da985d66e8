/** Promises 8 to 15, THE TREE and ROWS: the edges of each sentence. */
final class TreeEdges {
  private static final String DEEPEST = """
    things(8) = 5; group(ab) = 1; group(abc) = 1; group(abcd) = 1; group(abcde) = 1; group(abcdef) = 1; group(abcdefg) = 1
    """;

  private TreeEdges() {}

  static void tell(Sentences s) {
    many(s);
    tree(s);
    node(s);
    row(s);
    may(s);
    must(s);
    apart(s);
    spare(s);
  }

  private static void many(Sentences s) {
    s.says(8, "How many ROWS are PERMITTED.", """
      many() = 120; things(1) = 5; many() = 1; things(2) = 1; many() = 2; things(3) = 2; many() = 6; things(4) = 3; many() = 24
      things(6) = 4; many() = 720; things(7) = 6; many() = 5040; things(8) = 7; many() = 40320
      """);
    s.says(8, "How many ROWS are PERMITTED.", """
      group(ab) = 1; many() = 48; group(bc) = 1; many() = 12; group(ac) = 0; many() = 12; group(gh) = 1; many() = 12
      group(cd) = 1; many() = 4; group(de) = 1; many() = 2; group(ae) = 0; many() = 2; things(1) = 5; many() = 1
      """);
    s.says(8, "How many ROWS are PERMITTED.", DEEPEST + "many() = 128; group(ab) = 1; many() = 128");
  }

  private static void tree(Sentences s) {
    s.says(9, "How many bytes THE TREE has as it is SHOWN (i = NONE), the i-th (0 to 39; NONE).", """
      tree(-1) = 7; tree(0) = 40; tree(1) = 97; tree(5) = 101; tree(6) = 41; tree(7) = NONE; tree(39) = NONE
      group(ab) = 1; group(bc) = 1; tree(-1) = 9; tree(1) = 91; tree(5) = 93; tree(8) = 41; tree(9) = NONE
      things(1) = 5; tree(-1) = 1; tree(0) = 97; tree(1) = NONE; tree(39) = NONE
      """);
    s.says(9, "How many bytes THE TREE has as it is SHOWN (i = NONE), the i-th (0 to 39; NONE).", DEEPEST + """
      shown = (((((((ab)c)d)e)f)g)h); tree(-1) = 22; tree(21) = 41; tree(22) = NONE; tree(38) = NONE; tree(39) = NONE
      6 x back() = any; shown = (abcdefgh); tree(10) = NONE; tree(21) = NONE
      """);
    s.says(9, "BAD.", """
      tree(-2) = BAD; tree(40) = BAD; tree(LEAST) = BAD; tree(MOST) = BAD; tree(-1) = 7; tree(39) = NONE
      things(1) = 5; tree(-2) = BAD; tree(40) = BAD; things(8) = 1; tree(-2) = BAD; tree(40) = BAD; count(8) = 0
      """);
  }

  private static void node(Sentences s) {
    String sentence = "Of a NODE (0 to 6) the kind (what = 0: 0 FREE, 1 TURNING), how many parts (1), its THINGS as bits (2); NONE: there is no such one.";
    s.says(10, sentence, """
      node(0, 0) = 0; node(0, 1) = 5; node(0, 2) = 31; node(1, 0) = NONE; node(1, 1) = NONE; node(1, 2) = NONE; node(6, 0) = NONE; node(6, 2) = NONE
      group(ab) = 1; group(bc) = 1; node(1, 0) = 1; node(1, 1) = 3; node(1, 2) = 7; node(2, 0) = NONE
      things(2) = 5; node(0, 0) = 0; node(0, 1) = 2; node(0, 2) = 3; node(1, 0) = NONE
      things(1) = 2; node(0, 0) = NONE; node(0, 1) = NONE; node(0, 2) = NONE; node(6, 2) = NONE
      things(8) = 1; back() = 1; back() = 0; node(0, 1) = 8; node(0, 2) = 255
      """);
    s.says(10, sentence, DEEPEST + """
      node(6, 0) = 0; node(6, 1) = 2; node(6, 2) = 3; node(0, 1) = 2; node(0, 2) = 255; node(1, 2) = 127; node(5, 2) = 7; count(3) = 7
      back() = 5; node(5, 2) = 3; node(6, 0) = NONE; node(6, 1) = NONE; node(6, 2) = NONE
      """);
    s.says(10, "BAD.", """
      node(-1, 0) = BAD; node(7, 0) = BAD; node(0, -1) = BAD; node(0, 3) = BAD; node(-1, -1) = BAD; node(7, 3) = BAD
      node(LEAST, 0) = BAD; node(MOST, 0) = BAD; node(0, LEAST) = BAD; node(0, MOST) = BAD; node(6, 3) = BAD; node(6, -1) = BAD
      things(1) = 5; node(0, 3) = BAD; node(0, -1) = BAD; node(-1, 0) = BAD; node(7, 2) = BAD; count(8) = 0
      """);
  }

  private static void row(Sentences s) {
    String sentence = "The THING at a place (0 to 7) of ROW i (0 to 40319); NONE: there is no such ROW, place.";
    s.says(11, sentence, """
      row(0, 0) = 0; row(0, 4) = 4; row(0, 5) = NONE; row(0, 7) = NONE; row(119, 0) = 4; row(119, 4) = 0; row(119, 5) = NONE
      row(120, 0) = NONE; row(120, 4) = NONE; row(120, 7) = NONE; row(40319, 0) = NONE; row(40319, 7) = NONE
      group(ab) = 1; group(bc) = 1; row(11, 0) = 4; row(11, 4) = 0; row(12, 0) = NONE
      things(1) = 5; row(0, 0) = 0; row(0, 1) = NONE; row(1, 0) = NONE; row(40319, 7) = NONE
      """);
    s.says(11, sentence, """
      things(8) = 5; row(0, 0) = 0; row(0, 7) = 7; row(40319, 0) = 7; row(40319, 7) = 0; row(40318, 7) = 1; row(1, 7) = 6
      group(ab) = 1; row(10079, 0) = 7; row(10079, 7) = 0; row(10080, 0) = NONE; row(40319, 7) = NONE
      """);
    s.says(11, "BAD.", """
      row(-1, 0) = BAD; row(40320, 0) = BAD; row(0, -1) = BAD; row(0, 8) = BAD; row(-1, -1) = BAD; row(40320, 8) = BAD
      row(LEAST, 0) = BAD; row(MOST, 0) = BAD; row(0, LEAST) = BAD; row(0, MOST) = BAD; row(120, 8) = BAD; row(120, -1) = BAD
      row(-1, 5) = BAD; row(40320, 5) = BAD
      things(8) = 5; row(-1, 7) = BAD; row(40320, 7) = BAD; row(40319, 8) = BAD; row(40319, -1) = BAD
      things(1) = 8; row(-1, 0) = BAD; row(40320, 0) = BAD; row(0, 8) = BAD; count(8) = 0
      """);
  }

  private static void may(Sentences s) {
    s.says(12, "MAY: 1, 0.", """
      group(ab) = 1; group(bc) = 1; may(0) = 1; may(a) = 1; may(abc) = 1; may(ac) = 0; may(ad) = 1; may(abcde) = 1; shown = ([abc]de)
      things(1) = 5; may(0) = 1; may(a) = 1; things(2) = 1; may(ab) = 1
      """);
    s.says(12, "BAD: not 0 to 255, a THING that there is not.", numbersOfSets("may"));
    for (int n = 1; n <= 8; n++) s.says(12, "BAD: not 0 to 255, a THING that there is not.", setsOf("may", n));
  }

  private static void must(Sentences s) {
    s.says(13, "MUST: 1, 0.", """
      group(ab) = 1; group(bc) = 1; must(0) = 1; must(d) = 1; must(abc) = 1; must(bc) = 1; must(ac) = 0; must(ad) = 0; must(abcde) = 1
      shown = ([abc]de); things(1) = 5; must(0) = 1; must(a) = 1; things(2) = 1; must(ab) = 1
      """);
    s.says(13, "BAD likewise.", numbersOfSets("must"));
    for (int n = 1; n <= 8; n++) s.says(13, "BAD likewise.", setsOf("must", n));
  }

  private static String numbersOfSets(String call) {
    return """
      things(8) = 5; CALL(-1) = BAD; CALL(0) = 1; CALL(255) = 1; CALL(256) = BAD; CALL(257) = BAD; CALL(LEAST) = BAD; CALL(MOST) = BAD
      things(5) = 8; CALL(-1) = BAD; CALL(31) = 1; CALL(32) = BAD; CALL(33) = BAD; CALL(224) = BAD; CALL(255) = BAD; CALL(256) = BAD
      CALL(512) = BAD; CALL(LEAST) = BAD; CALL(MOST) = BAD; group(gh) = 1; CALL(gh) = BAD; count(8) = 0
      """.replace("CALL", call);
  }

  private static String setsOf(String call, int n) {
    int all = (1 << n) - 1;
    StringBuilder script = new StringBuilder("things(" + n + ") = 5");
    script.append("; ").append(call).append("(").append(all).append(") = 1; ").append(call).append("(").append(1 << n - 1).append(") = 1");
    for (int t = n; t <= 8; t++) {
      script.append("; ").append(call).append("(").append(1 << t).append(") = BAD; ").append(call).append("(").append(all | 1 << t).append(") = BAD");
    }
    return script.toString();
  }

  private static void apart(Sentences s) {
    s.says(14, "APART: the least (what = 0), the greatest (1).", """
      apart(0, 4, 0) = 0; apart(0, 4, 1) = 3; apart(4, 0, 0) = 0; apart(4, 0, 1) = 3
      group(ab) = 1; group(bc) = 1; apart(0, 2, 0) = 1; apart(2, 0, 1) = 1; apart(1, 4, 0) = 1; apart(1, 4, 1) = 2
      things(2) = 5; apart(0, 1, 0) = 0; apart(1, 0, 1) = 0; things(8) = 2; apart(7, 0, 0) = 0; apart(0, 7, 1) = 6
      """);
    s.says(14, "BAD: THINGS that there are not, one twice.", """
      apart(-1, 0, 0) = BAD; apart(0, -1, 0) = BAD; apart(5, 0, 0) = BAD; apart(0, 5, 0) = BAD; apart(4, 0, 0) = 0; apart(0, 4, 0) = 0
      apart(0, 1, -1) = BAD; apart(0, 1, 2) = BAD; apart(0, 1, LEAST) = BAD; apart(0, 1, MOST) = BAD
      apart(0, 0, 0) = BAD; apart(4, 4, 1) = BAD; apart(5, 5, 0) = BAD; apart(7, 0, 0) = BAD; apart(-1, -1, 0) = BAD
      apart(LEAST, 0, 0) = BAD; apart(MOST, 0, 0) = BAD; apart(0, LEAST, 0) = BAD; apart(0, MOST, 0) = BAD
      things(8) = 5; apart(8, 0, 0) = BAD; apart(0, 8, 0) = BAD; apart(7, 7, 0) = BAD; apart(7, 6, 0) = 0; apart(7, 6, 2) = BAD
      things(1) = 8; apart(0, 0, 0) = BAD; apart(0, 1, 0) = BAD; apart(1, 0, 0) = BAD; count(8) = 0
      """);
  }

  private static void spare(Sentences s) {
    s.says(15, "SPARE, as bits.", """
      spare() = 0; group(abcde) = 1; spare() = {0}; group(ab) = 1; spare() = {0}; group(ab) = 1; spare() = {0 1 2}; 7 x group(abc) = 1
      spare() = {0 1 2 3 4 5 6 7 8 9}; back() = 9; 6 x back() = any; count(1) = 3; spare() = {0 1 2}
      things(1) = 5; spare() = {0 1 2}; 3 x back() = any; spare() = 0; things(8) = 1; spare() = 0
      """);
  }
}

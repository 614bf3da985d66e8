/** Promises 1 to 7, a new object, THINGS and GROUPS: the edges of each sentence. */
final class GroupEdges {
  private GroupEdges() {}

  static void tell(Sentences s) {
    newObject(s);
    things(s);
    group(s);
    back(s);
    taken(s);
    reason(s);
    read(s);
  }

  private static void newObject(Sentences s) {
    s.says(1, "Five THINGS, no GROUPS, nothing TOLD; all SHEETS are LOST.", """
      count(0) = 5; count(1) = 0; count(2) = 0; count(3) = 1; count(4) = 0; count(5) = 120; count(6) = 7; count(7) = 0; count(8) = 0
      taken(0) = BAD; reason(0) = BAD; back() = NOT; spare() = 0; shown = (abcde); many() = 120
      undo() = NOT; wipe() = 0; fault() = NONE; misses() = NOT; number() = NOT
      lose(0) = NULL; lose(1) = NULL; lose(2) = NULL; lose(3) = NULL
      """);
    OrderTrees one = new OrderTrees(), other = new OrderTrees();
    one.things(8);
    one.group(3);
    one.type('a');
    one.sheet(0, 0, 1);
    one.sheet(0, 0, -1);
    s.due("another object's THINGS", other.count(0), 5);
    s.due("another object's GROUPS", other.count(1), 0);
    s.due("another object's bytes", other.count(7), 0);
    s.due("another object's FINDING", other.count(8), 0);
    s.due("another object's SHEET", other.lose(0), -11);
  }

  private static void things(Sentences s) {
    s.says(2, "N: what it was.", """
      things(1) = 5; things(8) = 1; things(8) = 8; things(4) = 8; things(5) = 4; count(0) = 5
      """);
    s.says(2, "BAD.", """
      things(0) = BAD; count(0) = 5; things(9) = BAD; things(-1) = BAD; things(LEAST) = BAD; things(MOST) = BAD; things(257) = BAD
      things(1) = 5; things(0) = BAD; things(9) = BAD; count(0) = 1; shown = a
      things(8) = 1; things(0) = BAD; things(9) = BAD; count(0) = 8; shown = (abcdefgh); count(8) = 0
      """);
    // Nothing but THINGS is told of: what was TOLD and SHEETS stay.
    s.says(2, "N: what it was.", """
      type abcde = 5; sheet(1, 2, 3) = 3; put(1, 2, 2, 77) = 1; put(1, 2, 3, 0) = INDEX
      things(3) = 5; count(7) = 5; fault() = 3; items 1 2 = 0 0 77; count(8) = 2
      things(5) = 3; fault() = NONE; number() = 0; things(8) = 5; fault() = 5; lose(1) = 3
      """);
    s.says(2, "N: what it was.", """
      group(ab) = 1; group(bc) = 1; group(ac) = 0
      things(8) = 5; count(1) = 3; count(2) = 2; shown = ([abc]defgh)
      things(1) = 8; count(1) = 3; count(2) = 3; shown = a
      things(3) = 1; count(1) = 3; count(2) = 2; shown = [abc]; back() = 2
      """);
  }

  private static void group(Sentences s) {
    s.says(3, "A GROUP more: 1 it is TAKEN, 0 REFUSED.", """
      group(ab) = 1; count(1) = 1; count(2) = 1; group(bc) = 1; count(1) = 2; count(2) = 2
      group(ac) = 0; count(1) = 3; count(2) = 2; group(ac) = 0; count(1) = 4; group(bc) = 1; count(1) = 5; count(2) = 3
      group(gh) = 1; group(eh) = 1; count(2) = 5; shown = ([abc]de)
      """);
    s.says(3, "BAD: not of two THINGS or more (bits of a to h: 0 to 255);", """
      group(-1) = BAD; group(0) = BAD; group(1) = BAD; group(2) = BAD; group(3) = 1
      group(4) = BAD; group(8) = BAD; group(16) = BAD; group(32) = BAD; group(64) = BAD; group(128) = BAD
      group(254) = 1; group(255) = 1; group(256) = BAD; group(257) = BAD; group(768) = BAD; group(259) = BAD
      group(LEAST) = BAD; group(MOST) = BAD; group(-2147483645) = BAD; count(1) = 3; count(8) = 0
      """);
    s.says(3, "BAD: not of two THINGS or more (bits of a to h: 0 to 255);", """
      things(1) = 5; group(a) = BAD; group(ab) = 1; group(gh) = 1; group(abcdefgh) = 1; group(h) = BAD; count(2) = 3
      things(8) = 1; count(2) = 3; shown = ((ab)cdef(gh)); group(h) = BAD; group(256) = BAD; count(1) = 3
      """);
    s.says(3, "FULL.", """
      group(ab) = 1; 8 x group(bc) = 1; count(1) = 9; group(cd) = 1; count(1) = 10
      group(de) = FULL; group(ab) = FULL; group(abcdefgh) = FULL; count(1) = 10; shown = ([abcd]e)
      back() = 9; group(de) = 1; shown = ([abc](de)); group(de) = FULL
      """);
    s.says(3, "FULL.", """
      group(ab) = 1; group(bc) = 1; 8 x group(ac) = 0; group(de) = FULL; count(1) = 10; count(2) = 2
      group(1) = BAD; group(0) = BAD; group(256) = BAD; group(-1) = BAD
      things(1) = 5; group(gh) = FULL; count(2) = 10
      """);
  }

  private static void back(Sentences s) {
    s.says(4, "The last GROUP is undone: how many are left.", """
      group(ab) = 1; group(bc) = 1; group(cd) = 1; group(de) = 1; group(ac) = 0; group(bd) = 0; group(ce) = 0; group(ad) = 0
      group(be) = 0; group(ae) = 0; count(1) = 10; count(2) = 4
      back() = 9; taken(9) = BAD; taken(8) = 0; shown = [abcde]
      4 x back() = any; count(1) = 5; count(2) = 4; back() = 4; shown = [abcde]; taken(3) = 1
      back() = 3; shown = ([abcd]e); count(2) = 3; back() = 2; shown = ([abc]de); back() = 1; shown = ((ab)cde); back() = 0; shown = (abcde)
      """);
    s.says(4, "The last GROUP is undone: how many are left.", """
      group(ab) = 1; group(bc) = 1; group(ac) = 0; back() = 2; back() = 1; group(ac) = 1; shown = ([bac]de)
      group(bc) = 0; reason(2) = {0 1}; back() = 2; reason(2) = BAD; back() = 1; back() = 0; group(bc) = 1; shown = (a(bc)de)
      """);
    s.says(4, "NOT: there is none.", """
      back() = NOT; group(ab) = 1; back() = 0; back() = NOT; shown = (abcde); group(1) = BAD; back() = NOT; count(8) = 0
      things(1) = 5; back() = NOT; things(8) = 1; back() = NOT
      """);
  }

  private static void taken(Sentences s) {
    s.says(5, "Whether a GROUP is TAKEN: 1, 0.", """
      group(ab) = 1; taken(0) = 1; group(bc) = 1; group(ac) = 0; group(gh) = 1; 6 x group(bd) = 0
      taken(0) = 1; taken(1) = 1; taken(2) = 0; taken(3) = 1; taken(4) = 0; taken(9) = 0
      things(2) = 5; taken(2) = 1; taken(9) = 1; things(3) = 2; taken(2) = 0; taken(9) = 1
      """);
    s.says(5, "BAD.", """
      taken(-1) = BAD; taken(0) = BAD; group(ab) = 1; taken(-1) = BAD; taken(0) = 1; taken(1) = BAD
      9 x group(ab) = 1; taken(9) = 1; taken(10) = BAD; taken(-1) = BAD; taken(LEAST) = BAD; taken(MOST) = BAD
      back() = 9; taken(8) = 1; taken(9) = BAD; count(8) = 0
      """);
  }

  private static void reason(Sentences s) {
    s.says(6, "REASON, as bits.", """
      group(ab) = 1; group(bc) = 1; 7 x group(ab) = 1; group(ac) = 0; reason(9) = {1 8}
      things(3) = 5; reason(9) = {1 8}
      """);
    s.says(6, "BAD;", """
      reason(-1) = BAD; reason(0) = BAD; group(ab) = 1; group(bc) = 1; group(ac) = 0
      reason(-1) = BAD; reason(2) = {0 1}; reason(3) = BAD; reason(LEAST) = BAD; reason(MOST) = BAD
      7 x group(bd) = 0; reason(9) = {0 1}; reason(10) = BAD; back() = 9; reason(9) = BAD; reason(8) = {0 1}; count(8) = 0
      """);
    s.says(6, "NOT: it is TAKEN.", """
      group(ab) = 1; reason(0) = NOT; group(gh) = 1; reason(1) = NOT; group(bc) = 1; group(ac) = 0; reason(2) = NOT; reason(3) = {0 2}
      6 x group(abc) = 1; reason(9) = NOT; things(2) = 5; reason(3) = NOT; things(1) = 2; reason(0) = NOT; reason(3) = NOT
      """);
  }

  private static void read(Sentences s) {
    String sentence = "GROUPS more, behind those that there are, from a SHEET: its items, one by one as group() tells of them (REFUSED ones, "
      + "too), up to the first that is BAD or FULL: how many came.";
    s.says(7, sentence, """
      group(ab) = 1; sheet(2, 1, 4) = 4; put(2, 1, 0, 6) = 1; put(2, 1, 1, 5) = 1; put(2, 1, 2, 24) = 1; put(2, 1, 3, 192) = 1
      read(2) = 4; count(1) = 5; taken(0) = 1; taken(1) = 1; taken(2) = 0; taken(3) = 1; taken(4) = 1; shown = ([abc](de))
      items 2 1 = 6 5 24 192; back() = 4; taken(4) = BAD; read(2) = 4; count(1) = 8; read(2) = 2; count(1) = 10; taken(9) = 0
      read(2) = 0; count(1) = 10; count(8) = 0
      """);
    s.says(7, sentence, """
      sheet(0, 0, 0) = 0; read(0) = 0; sheet(3, 2, 60) = 60; read(3) = 0; count(1) = 0
      put(3, 2, 0, 3) = 1; read(3) = 1; put(3, 2, 1, 255) = 1; put(3, 2, 2, 256) = 1; put(3, 2, 3, 3) = 1; read(3) = 2; count(1) = 3
      put(3, 2, 2, -1) = 1; read(3) = 2; put(3, 2, 2, 128) = 1; read(3) = 2; put(3, 2, 0, 1) = 1; read(3) = 0; count(1) = 7
      put(3, 2, 0, 65539) = 1; read(3) = 0; put(3, 2, 0, LEAST) = 1; read(3) = 0; count(1) = 7
      """);
    // No more than its items: neither those that it had as another row nor the next SHEET's.
    s.says(7, sentence, """
      sheet(0, 2, 3) = 3; put(0, 2, 0, 3) = 1; put(0, 2, 1, 3) = 1; put(0, 2, 2, 3) = 1; sheet(1, 2, 1) = 1; put(1, 2, 0, 3) = 1
      sheet(0, 2, 1) = 1; put(0, 2, 0, 3) = 1; read(0) = 1; count(1) = 1; sheet(0, 2, 0) = 0; read(0) = 0; count(1) = 1; read(1) = 1
      """);
    StringBuilder sixty = new StringBuilder("sheet(3, 0, 60) = 60");
    for (int i = 0; i < 60; i++) sixty.append("; put(3, 0, ").append(i).append(", 3) = 1");
    s.says(7, sentence, sixty + "; read(3) = 10; count(1) = 10; read(3) = 0; back() = 9; read(3) = 1; back() = 9; back() = 8; read(3) = 2; count(1) = 10");
    // Ten come, and the eleventh is never looked at, BAD or not.
    s.says(7, sentence, sixty + "; put(3, 0, 10, 1) = 1; read(3) = 10; back() = 9; put(3, 0, 1, 0) = 1; read(3) = 1; count(8) = 0");
    // Items as they are in the SHEET: bytes and shorts have lost the bits above, and have their signs.
    s.says(7, sentence, """
      sheet(0, 0, 2) = 2; put(0, 0, 0, 127) = 1; put(0, 0, 1, 128) = 1; read(0) = 1
      put(0, 0, 0, 259) = 1; put(0, 0, 1, 255) = 1; read(0) = 1; shown = ((ab)cde)
      sheet(1, 1, 2) = 2; put(1, 1, 0, 255) = 1; put(1, 1, 1, 256) = 1; read(1) = 1
      put(1, 1, 0, 65542) = 1; put(1, 1, 1, 65535) = 1; read(1) = 1; shown = ([abc]de)
      """);
    s.says(7, sentence, """
      things(1) = 5; sheet(0, 0, 2) = 2; put(0, 0, 0, 3) = 1; put(0, 0, 1, 6) = 1; read(0) = 2; count(2) = 2; shown = a
      things(8) = 1; shown = ([abc]defgh)
      """);
    s.says(7, "BAD; NULL.", """
      read(-1) = BAD; read(4) = BAD; read(LEAST) = BAD; read(MOST) = BAD; count(8) = 0
      read(0) = NULL; count(8) = 1; read(3) = NULL; sheet(0, 0, 1) = 1; sheet(3, 0, 1) = 1; read(0) = 0; read(3) = 0
      put(0, 0, 0, 3) = 1; read(0) = 1; lose(0) = 1; read(0) = NULL; count(1) = 1; 9 x group(ab) = 1; read(0) = NULL; read(4) = BAD
      """);
  }
}

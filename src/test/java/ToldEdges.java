/** Promises 16 to 21, a ROW that is TOLD: the edges of each sentence. */
final class ToldEdges {
  private ToldEdges() {}

  static void tell(Sentences s) {
    type(s);
    wipeAndUndo(s);
    fault(s);
    misses(s);
    number(s);
  }

  private static void type(Sentences s) {
    s.says(16, "A byte (0 to 255) comes behind TOLD: how many.", """
      type(0) = 1; type(255) = 2; type(97) = 3; type(97) = 4; type(104) = 5; count(7) = 5; fault() = 0
      wipe() = 5; type a = 1; type b = 2; type c = 3; type d = 4; type e = 5; number() = 0
      """);
    s.says(16, "BAD;", """
      type(-1) = BAD; type(256) = BAD; type(LEAST) = BAD; type(MOST) = BAD; type(353) = BAD; type(-159) = BAD; count(7) = 0; fault() = NONE
      type(0) = 1; type(255) = 2; type(256) = BAD; type(-1) = BAD; count(7) = 2; count(8) = 0
      """);
    s.says(16, "FULL.", """
      type abcdefg = 7; type(104) = 8; type(97) = FULL; type(0) = FULL; type(255) = FULL; count(7) = 8; type(256) = BAD; type(-1) = BAD
      undo() = 7; type(97) = 8; type(97) = FULL; wipe() = 8; type(97) = 1; things(1) = 5; type bcdefgh = 8; type a = FULL
      """);
  }

  private static void wipeAndUndo(Sentences s) {
    s.says(17, "TOLD is empty: how many bytes it had.", """
      wipe() = 0; wipe() = 0; type a = 1; wipe() = 1; count(7) = 0; fault() = NONE; misses() = NOT; undo() = NOT; wipe() = 0
      type abcdefgh = 8; wipe() = 8; count(7) = 0; type e = 1; type abcd = 5; number() = 96
      """);
    s.says(18, "The last byte is undone: how many are left.", """
      type abcdefgh = 8; undo() = 7; undo() = 6; undo() = 5; number() = 0; undo() = 4; fault() = 4; undo() = 3; undo() = 2; undo() = 1; undo() = 0
      fault() = NONE; type(0) = 1; fault() = 0; undo() = 0; fault() = NONE; type edcba = 5; number() = 119
      """);
    s.says(18, "NOT: it is empty.", """
      undo() = NOT; type a = 1; undo() = 0; undo() = NOT; type(256) = BAD; undo() = NOT; count(7) = 0; type a = 1; wipe() = 1; undo() = NOT; count(8) = 0
      """);
  }

  private static void fault(Sentences s) {
    s.says(19, "The FAULT; NONE.", """
      fault() = NONE; type a = 1; fault() = 1; type bcd = 4; fault() = 4; type e = 5; fault() = NONE; type a = 6; fault() = 5; type bc = 8; fault() = 5
      things(8) = 5; fault() = 5; told abcdefgh; fault() = NONE; things(7) = 8; fault() = 7; things(1) = 7; fault() = 1
      told aaaaaaaa; fault() = 1; told a; fault() = NONE; wipe() = 1; type(96) = 1; fault() = 0; wipe() = 1; type(98) = 1; fault() = 0
      """);
    for (int n = 1; n <= 8; n++) {
      String all = "abcdefgh".substring(0, n);
      StringBuilder script = new StringBuilder("things(" + n + ") = 5");
      for (int size = 1; size < n; size++) script.append("; told ").append(all, 0, size).append("; fault() = ").append(size);
      script.append("; told ").append(all).append("; fault() = NONE; number() = 0");
      script.append("; undo() = ").append(n - 1).append("; type(").append('a' + n).append(") = ").append(n).append("; fault() = ").append(n - 1);
      script.append("; undo() = ").append(n - 1).append("; type(").append('a' - 1).append(") = ").append(n).append("; fault() = ").append(n - 1);
      script.append("; undo() = ").append(n - 1).append("; type(").append('a' + n - 1).append(") = ").append(n).append("; fault() = NONE");
      s.says(19, "The FAULT; NONE.", script.toString());
    }
  }

  private static void misses(Sentences s) {
    s.says(20, "MISSES, as bits.", """
      told abcde; misses() = 0; group(ab) = 1; group(ac) = 1; misses() = {1}; group(bc) = 0; misses() = {1}; group(ad) = 0; misses() = {1 3}
      group(gh) = 1; group(ah) = 1; group(abcdefgh) = 1; misses() = {1 3}; 3 x group(ae) = 0; misses() = {1 3 7 8 9}
      told bacde; misses() = {2 3 7 8 9}
      things(1) = 5; told a; misses() = 0; things(2) = 1; told ba; misses() = 0
      """);
    s.says(20, "NOT: there is no ROW told.", """
      misses() = NOT; group(ab) = 1; misses() = NOT; told abcd; misses() = NOT; told abcda; misses() = NOT; told abcdef; misses() = NOT
      told abcdf; misses() = NOT; told acbde; misses() = {0}; things(4) = 5; misses() = NOT; things(8) = 4; misses() = NOT
      told abcdefgh; misses() = 0; undo() = 7; misses() = NOT; wipe() = 7; misses() = NOT; count(8) = 0
      things(1) = 8; misses() = NOT; told b; misses() = NOT; told aa; misses() = NOT
      """);
  }

  private static void number(Sentences s) {
    s.says(21, "Which ROW it is; NONE: it is not PERMITTED.", """
      told abcde; number() = 0; told edcba; number() = 119; group(ab) = 1; number() = 47; group(bc) = 1; number() = 11; group(ac) = 0; number() = 11
      told acbde; number() = NONE; back() = 2; number() = NONE; back() = 1; number() = NONE; back() = 0; number() = 6
      things(1) = 5; told a; number() = 0; things(8) = 1; told hgfedcba; number() = 40319; told abcdefgh; number() = 0
      """);
    s.says(21, "NOT: there is no ROW told.", """
      number() = NOT; told abcd; number() = NOT; told abcdd; number() = NOT; told abcdf; number() = NOT; told abcdef; number() = NOT
      group(ac) = 1; number() = NOT; told abcde; number() = NONE; things(4) = 5; number() = NOT; things(8) = 4; number() = NOT
      wipe() = 5; number() = NOT; things(1) = 8; number() = NOT; told b; number() = NOT; told aa; number() = NOT; count(8) = 0
      """);
  }
}

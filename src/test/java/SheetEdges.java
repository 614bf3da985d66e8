import java.math.BigInteger;
import java.util.ArrayList;
import java.util.List;

/** Promises 22 to 29, SHEETS, count() and digest(): the edges of each sentence. */
final class SheetEdges {
  private SheetEdges() {}

  static void tell(Sentences s) {
    sheet(s);
    lose(s);
    put(s);
    wrapAround(s);
    get(s);
    copy(s);
    write(s);
    count(s);
    digest(s);
  }

  private static void sheet(Sentences s) {
    s.says(22, "A SHEET is a new row of a FORM with n items: n.", """
      sheet(0, 0, 0) = 0; sheet(1, 1, 1) = 1; sheet(2, 2, 59) = 59; sheet(3, 2, 60) = 60
      put(3, 2, 59, 7) = 1; put(3, 2, 0, 7) = 1; sheet(3, 2, 60) = 60; get(3, 2, 59) = 0; get(3, 2, 0) = 0      # a new row
      put(3, 2, 0, 7) = 1; sheet(3, 0, 1) = 1; get(3, 2, 0) = LEAST; count(8) = 3; get(3, 0, 0) = 0; get(3, 0, 1) = LEAST; count(8) = 2
      sheet(3, 0, 2) = 2; get(3, 0, 1) = 0; sheet(3, 1, 0) = 0; get(3, 1, 0) = LEAST; lose(3) = 0
      put(2, 2, 1, 5) = 1; lose(2) = 59; sheet(2, 2, 2) = 2; get(2, 2, 1) = 0; get(1, 1, 0) = 0; lose(0) = 0
      """);
    s.says(22, "BAD: SHEET, FORM, above 60;", """
      sheet(-1, 0, 1) = BAD; sheet(4, 0, 1) = BAD; sheet(LEAST, 0, 1) = BAD; sheet(MOST, 0, 1) = BAD
      sheet(0, -1, 1) = BAD; sheet(0, 3, 1) = BAD; sheet(0, LEAST, 1) = BAD; sheet(0, MOST, 1) = BAD
      sheet(0, 0, 61) = BAD; sheet(0, 2, MOST) = BAD; sheet(-1, 0, -1) = BAD; sheet(4, 0, -1) = BAD; sheet(0, 3, -1) = BAD; sheet(0, -1, LEAST) = BAD
      sheet(0, 0, 60) = 60; put(0, 0, 59, 3) = 1; sheet(0, 0, 61) = BAD; sheet(0, 3, 5) = BAD; get(0, 0, 59) = 3; lose(0) = 60; count(8) = 0
      """);
    s.says(22, "SIZE.", """
      sheet(0, 0, -1) = SIZE; count(8) = 5; lose(0) = NULL; sheet(3, 2, LEAST) = SIZE; lose(3) = NULL; sheet(0, 0, 0) = 0; count(8) = 1
      sheet(1, 1, 2) = 2; put(1, 1, 1, 9) = 1; sheet(1, 0, -1) = SIZE; count(8) = 5; items 1 1 = 0 9; lose(1) = 2; count(8) = 5
      """);
  }

  private static void lose(Sentences s) {
    s.says(23, "It is LOST: how many items it had.", """
      sheet(0, 0, 60) = 60; sheet(1, 1, 0) = 0; sheet(2, 2, 1) = 1; sheet(3, 0, 2) = 2; put(3, 0, 1, 5) = 1
      lose(0) = 60; lose(0) = NULL; lose(1) = 0; lose(1) = NULL; lose(2) = 1; get(3, 0, 1) = 5; put(2, 2, 0, 1) = NULL; lose(3) = 2
      sheet(3, 0, 2) = 2; get(3, 0, 1) = 0; lose(3) = 2
      """);
    s.says(23, "BAD; NULL.", """
      lose(-1) = BAD; lose(4) = BAD; lose(LEAST) = BAD; lose(MOST) = BAD; count(8) = 0
      lose(0) = NULL; count(8) = 1; lose(3) = NULL; sheet(0, 0, 3) = 3; sheet(3, 0, 4) = 4; lose(-1) = BAD; lose(4) = BAD; lose(1) = NULL
      lose(0) = 3; lose(3) = 4; lose(0) = NULL; lose(3) = NULL
      """);
  }

  private static void put(Sentences s) {
    s.says(24, "Item i, treated as of a FORM, becomes v (the lowest bits that it has, with its sign): 1.", """
      sheet(0, 0, 60) = 60; put(0, 0, 0, 1) = 1; put(0, 0, 59, 2) = 1; get(0, 0, 0) = 1; get(0, 0, 1) = 0; get(0, 0, 58) = 0; get(0, 0, 59) = 2
      sheet(3, 2, 1) = 1; put(3, 2, 0, -5) = 1; get(3, 2, 0) = -5; put(3, 2, 0, 0) = 1; get(3, 2, 0) = 0; get(0, 0, 0) = 1; count(8) = 0
      """);
    s.says(24, "BAD;", """
      sheet(0, 1, 2) = 2; put(-1, 1, 0, 1) = BAD; put(4, 1, 0, 1) = BAD; put(0, -1, 0, 1) = BAD; put(0, 3, 0, 1) = BAD
      put(LEAST, 1, 0, 1) = BAD; put(MOST, 1, 0, 1) = BAD; put(0, LEAST, 0, 1) = BAD; put(0, MOST, 0, 1) = BAD; put(1, 3, 0, 1) = BAD
      put(0, 3, 2, 1) = BAD; put(-1, 0, -1, 1) = BAD; items 0 1 = 0 0; count(8) = 0; put(0, 1, 0, 1) = 1; sheet(3, 2, 1) = 1; put(3, 2, 0, 1) = 1
      """);
    s.says(24, "NULL;", """
      put(0, 0, 0, 1) = NULL; count(8) = 1; put(3, 2, 0, 1) = NULL; put(1, 1, -1, 1) = NULL; put(1, 1, 60, 1) = NULL
      sheet(1, 1, 1) = 1; put(1, 1, 0, 1) = 1; lose(1) = 1; put(1, 1, 0, 1) = NULL; sheet(1, 1, 0) = 0; put(1, 1, 0, 1) = INDEX; put(1, 0, 0, 1) = CAST
      """);
    s.says(24, "CAST;", """
      sheet(0, 0, 1) = 1; sheet(1, 1, 1) = 1; sheet(2, 2, 1) = 1; put(0, 1, 0, 1) = CAST; count(8) = 3; put(0, 2, 0, 1) = CAST; put(1, 0, 0, 1) = CAST
      put(1, 2, 0, 1) = CAST; put(2, 0, 0, 1) = CAST; put(2, 1, 0, 1) = CAST; put(2, 1, 1, 1) = CAST; put(2, 0, -1, 1) = CAST
      get(0, 0, 0) = 0; get(1, 1, 0) = 0; get(2, 2, 0) = 0; put(0, 0, 0, 1) = 1; put(1, 1, 0, 1) = 1; put(2, 2, 0, 1) = 1
      """);
    s.says(24, "INDEX.", """
      sheet(0, 0, 0) = 0; put(0, 0, 0, 1) = INDEX; count(8) = 2; put(0, 0, -1, 1) = INDEX
      sheet(1, 1, 60) = 60; put(1, 1, -1, 1) = INDEX; put(1, 1, 0, 1) = 1; put(1, 1, 59, 1) = 1; put(1, 1, 60, 1) = INDEX
      sheet(1, 1, 2) = 2; put(1, 1, 1, 4) = 1; put(1, 1, 2, 4) = INDEX; put(1, 1, 59, 4) = INDEX; put(1, 1, LEAST, 4) = INDEX; put(1, 1, MOST, 4) = INDEX
      items 1 1 = 0 4
      """);
  }

  private static void wrapAround(Sentences s) {
    String sentence = "Item i, treated as of a FORM, becomes v (the lowest bits that it has, with its sign): 1.";
    int[] values = {0, 1, 127, 128, 129, 255, 256, 257, 32767, 32768, 32769, 65535, 65536, 65537, 8388608, Integer.MAX_VALUE,
      -1, -127, -128, -129, -255, -256, -257, -32767, -32768, -32769, -65535, -65536, -65537, Integer.MIN_VALUE};
    StringBuilder bytes = new StringBuilder("sheet(0, 0, 2) = 2"), shorts = new StringBuilder("sheet(1, 1, 2) = 2"), ints = new StringBuilder("sheet(2, 2, 2) = 2");
    for (int v : values) {
      bytes.append("; put(0, 0, 1, ").append(v).append(") = 1; get(0, 0, 1) = ").append(wrapped(v, 256)).append("; get(0, 0, 0) = 0");
      shorts.append("; put(1, 1, 1, ").append(v).append(") = 1; get(1, 1, 1) = ").append(wrapped(v, 65536)).append("; get(1, 1, 0) = 0");
      ints.append("; put(2, 2, 1, ").append(v).append(") = 1; get(2, 2, 1) = ").append(v).append("; get(2, 2, 0) = 0");
    }
    s.says(24, sentence, bytes.toString());
    s.says(24, sentence, shorts.toString());
    s.says(24, sentence, ints.toString());
  }

  /** Worked out without Java's own casts: so many numbers there are, half of them below 0. */
  private static long wrapped(long v, long numbers) {
    long low = Math.floorMod(v, numbers);
    return low >= numbers / 2 ? low - numbers : low;
  }

  private static void get(Sentences s) {
    s.says(25, "Item i of it.", """
      sheet(0, 0, 60) = 60; put(0, 0, 59, -3) = 1; get(0, 0, 59) = -3; get(0, 0, 0) = 0; sheet(3, 2, 1) = 1; put(3, 2, 0, LEAST) = 1; get(3, 2, 0) = LEAST
      put(3, 2, 0, MOST) = 1; get(3, 2, 0) = MOST; put(3, 2, 0, -11) = 1; get(3, 2, 0) = -11; count(8) = 0; get(0, 0, 59) = -3
      """);
    s.says(25, "BAD: the least int;", """
      get(-1, 0, 0) = LEAST; get(4, 0, 0) = LEAST; get(0, -1, 0) = LEAST; get(0, 3, 0) = LEAST; get(LEAST, 0, 0) = LEAST; get(MOST, 0, 0) = LEAST
      get(0, LEAST, 0) = LEAST; get(0, MOST, 0) = LEAST; count(8) = 0; lose(0) = NULL; get(4, 0, 0) = LEAST; get(0, 3, 0) = LEAST; count(8) = 1
      sheet(0, 0, 1) = 1; sheet(0, 0, -1) = SIZE; get(-1, 0, 5) = LEAST; get(0, 3, 5) = LEAST; get(0, -1, -1) = LEAST; count(8) = 5
      get(0, 0, 0) = 0; sheet(3, 2, 1) = 1; get(3, 2, 0) = 0; count(8) = 5
      """);
    s.says(25, "so are NULL, CAST, INDEX (count() 8 tells).", """
      get(0, 0, 0) = LEAST; count(8) = 1; sheet(0, 1, 2) = 2; get(0, 0, 0) = LEAST; count(8) = 3; get(0, 1, 2) = LEAST; count(8) = 2
      get(0, 2, 0) = LEAST; count(8) = 3; get(0, 1, -1) = LEAST; count(8) = 2; get(1, 1, -1) = LEAST; count(8) = 1; get(0, 0, 2) = LEAST; count(8) = 3
      get(0, 1, LEAST) = LEAST; count(8) = 2; get(3, 0, 0) = LEAST; count(8) = 1; get(0, 1, MOST) = LEAST; count(8) = 2; get(0, 1, 1) = 0; count(8) = 2
      lose(0) = 2; get(0, 1, 0) = LEAST; count(8) = 1; sheet(0, 2, 60) = 60; get(0, 2, 60) = LEAST; count(8) = 2
      sheet(0, 2, 0) = 0; lose(1) = NULL; get(0, 2, 0) = LEAST; count(8) = 2
      """);
  }

  private static void copy(Sentences s) {
    String sentence = "n items of SHEET s, from i on, come to SHEET t (perhaps s, as they were), from j on: 1.";
    s.says(26, sentence, """
      sheet(0, 2, 5) = 5; put(0, 2, 0, 1) = 1; put(0, 2, 1, 2) = 1; put(0, 2, 2, 3) = 1; put(0, 2, 3, 4) = 1; put(0, 2, 4, MOST) = 1
      sheet(3, 2, 3) = 3; copy(0, 2, 3, 0, 3) = 1; items 3 2 = 3 4 2147483647; copy(0, 0, 3, 2, 1) = 1; items 3 2 = 3 4 1
      copy(0, 0, 0, 1, 4) = 1; items 0 2 = 1 1 2 3 4; copy(0, 2, 0, 0, 3) = 1; items 0 2 = 2 3 4 3 4; copy(0, 0, 0, 0, 5) = 1; items 0 2 = 2 3 4 3 4
      copy(3, 0, 0, 2, 3) = 1; items 0 2 = 2 3 3 4 1; items 3 2 = 3 4 1; copy(0, 5, 3, 3, 0) = 1; copy(0, 0, 3, 0, 0) = 1; items 3 2 = 3 4 1; count(8) = 0
      """);
    s.says(26, sentence, """
      sheet(0, 0, 60) = 60; put(0, 0, 0, -1) = 1; put(0, 0, 59, 200) = 1; sheet(1, 0, 60) = 60; copy(0, 0, 1, 0, 60) = 1; get(1, 0, 0) = -1; get(1, 0, 59) = -56
      copy(0, 59, 1, 1, 1) = 1; get(1, 0, 1) = -56; copy(0, 60, 1, 60, 0) = 1; copy(1, 0, 1, 1, 59) = 1; get(1, 0, 0) = -1; get(1, 0, 1) = -1; get(1, 0, 2) = -56
      sheet(2, 1, 1) = 1; put(2, 1, 0, -300) = 1; sheet(3, 1, 2) = 2; copy(2, 0, 3, 1, 1) = 1; items 3 1 = 0 -300
      sheet(2, 0, 0) = 0; copy(2, 0, 2, 0, 0) = 1; copy(2, 0, 0, 60, 0) = 1; copy(0, 0, 2, 0, 0) = 1
      """);
    s.says(26, "BAD: the SHEETS;", """
      copy(-1, 0, 0, 0, 0) = BAD; copy(4, 0, 0, 0, 0) = BAD; copy(0, 0, -1, 0, 0) = BAD; copy(0, 0, 4, 0, 0) = BAD; copy(LEAST, 0, 0, 0, 0) = BAD
      copy(MOST, 0, 0, 0, 0) = BAD; copy(0, 0, LEAST, 0, 0) = BAD; copy(0, 0, MOST, 0, 0) = BAD; count(8) = 0
      sheet(0, 0, 1) = 1; sheet(3, 0, 1) = 1; copy(0, 0, 3, 0, 1) = 1; copy(3, 0, 0, 0, 1) = 1; copy(0, 2, 4, 0, 1) = BAD; copy(-1, 0, 3, 0, -1) = BAD; count(8) = 0
      """);
    s.says(26, "NULL: s, t;", """
      copy(0, 0, 1, 0, 0) = NULL; count(8) = 1; copy(0, 0, 0, 0, 0) = NULL; sheet(0, 0, 2) = 2; copy(0, 0, 1, 0, 1) = NULL; copy(1, 0, 0, 0, 1) = NULL
      copy(0, 3, 1, 0, -1) = NULL; copy(1, -1, 0, 0, 0) = NULL; sheet(1, 0, 2) = 2; copy(0, 0, 1, 0, 1) = 1; lose(0) = 2; copy(0, 0, 1, 0, 1) = NULL; copy(1, 0, 0, 0, 1) = NULL
      """);
    s.says(26, "STORE;", """
      sheet(0, 0, 2) = 2; sheet(1, 1, 2) = 2; sheet(2, 2, 2) = 2; copy(0, 0, 1, 0, 1) = STORE; count(8) = 4; copy(1, 0, 0, 0, 1) = STORE; copy(0, 0, 2, 0, 1) = STORE
      copy(2, 0, 0, 0, 1) = STORE; copy(1, 0, 2, 0, 1) = STORE; copy(2, 0, 1, 0, 1) = STORE; copy(0, 0, 1, 0, 0) = STORE; copy(0, 3, 1, 0, 1) = STORE; copy(0, 0, 1, 0, -1) = STORE
      sheet(1, 0, 2) = 2; copy(0, 0, 1, 0, 1) = 1; sheet(1, 1, 0) = 0; copy(1, 0, 2, 0, 0) = STORE
      """);
    s.says(26, "INDEX: i, j or n below 0, not so many there (of n 0, too: i or j above the size).", """
      sheet(0, 2, 5) = 5; sheet(1, 2, 3) = 3; put(0, 2, 4, 7) = 1
      copy(0, -1, 1, 0, 1) = INDEX; count(8) = 2; copy(0, 0, 1, -1, 1) = INDEX; copy(0, 0, 1, 0, -1) = INDEX; copy(0, -1, 1, 0, 0) = INDEX; copy(0, 0, 1, -1, 0) = INDEX
      copy(0, 3, 1, 0, 3) = INDEX; copy(0, 2, 1, 0, 3) = 1; copy(0, 0, 1, 1, 3) = INDEX; copy(0, 0, 1, 1, 2) = 1; copy(0, 0, 1, 0, 4) = INDEX; copy(1, 0, 0, 0, 4) = INDEX
      copy(0, 5, 1, 0, 1) = INDEX; copy(0, 0, 1, 3, 1) = INDEX; copy(0, 5, 1, 3, 0) = 1; copy(0, 6, 1, 0, 0) = INDEX; copy(0, 0, 1, 4, 0) = INDEX; copy(0, 6, 1, 4, 0) = INDEX
      copy(0, 6, 1, 0, -1) = INDEX; copy(0, MOST, 1, 0, MOST) = INDEX; copy(0, 1, 1, 1, MOST) = INDEX; copy(0, MOST, 1, 0, 1) = INDEX; copy(0, 0, 1, MOST, 1) = INDEX
      copy(0, LEAST, 1, 0, 0) = INDEX; copy(0, 0, 1, LEAST, 0) = INDEX; copy(0, 0, 1, 0, LEAST) = INDEX; copy(0, LEAST, 1, LEAST, LEAST) = INDEX; copy(0, LEAST, 1, 0, MOST) = INDEX
      copy(0, 0, 0, 1, 5) = INDEX; copy(0, 1, 0, 0, 5) = INDEX; copy(0, 5, 0, 0, 1) = INDEX; copy(0, MOST, 1, 0, LEAST) = INDEX
      items 1 2 = 0 0 0; items 0 2 = 0 0 0 0 7
      sheet(2, 2, 0) = 0; copy(2, 0, 0, 0, 1) = INDEX; copy(0, 0, 2, 0, 1) = INDEX; copy(2, 1, 2, 0, 0) = INDEX; copy(2, 0, 2, 1, 0) = INDEX; copy(2, 0, 2, 0, 0) = 1
      sheet(2, 2, 60) = 60; copy(2, 0, 2, 0, 61) = INDEX; copy(2, 1, 2, 0, 60) = INDEX; copy(2, 0, 2, 1, 60) = INDEX; copy(2, 61, 2, 0, 0) = INDEX; copy(2, 0, 2, 0, 60) = 1
      """);
  }

  private static void write(Sentences s) {
    String sentence = "THINGS of ROW i (0 to 40319) come to a SHEET from item 0 on, as many as there are items, and THINGS (none, where there is no such ROW): how many.";
    s.says(27, sentence, """
      sheet(0, 0, 6) = 6; put(0, 0, 5, 9) = 1; write(119, 0) = 5; items 0 0 = 4 3 2 1 0 9; write(0, 0) = 5; items 0 0 = 0 1 2 3 4 9
      write(120, 0) = 0; write(40319, 0) = 0; items 0 0 = 0 1 2 3 4 9
      sheet(1, 1, 4) = 4; write(119, 1) = 4; items 1 1 = 4 3 2 1; sheet(2, 2, 5) = 5; write(119, 2) = 5; items 2 2 = 4 3 2 1 0
      sheet(3, 2, 0) = 0; write(0, 3) = 0; sheet(3, 2, 1) = 1; write(119, 3) = 1; items 3 2 = 4; count(8) = 0
      """);
    s.says(27, sentence, """
      things(8) = 5; sheet(3, 0, 60) = 60; put(3, 0, 7, 50) = 1; put(3, 0, 8, 50) = 1; put(3, 0, 59, 50) = 1; write(40319, 3) = 8; items 3 0 = 7 6 5 4 3 2 1 0 50
      get(3, 0, 59) = 50; sheet(0, 1, 8) = 8; write(40319, 0) = 8; items 0 1 = 7 6 5 4 3 2 1 0; sheet(0, 1, 7) = 7; write(40319, 0) = 7; items 0 1 = 7 6 5 4 3 2 1
      things(1) = 8; write(0, 3) = 1; items 3 0 = 0 6; write(1, 3) = 0; write(40319, 3) = 0; items 3 0 = 0 6
      things(5) = 1; group(ab) = 1; group(bc) = 1; write(11, 3) = 5; items 3 0 = 4 3 2 1 0 2; write(12, 3) = 0
      """);
    s.says(27, "BAD; NULL.", """
      write(-1, 0) = BAD; write(40320, 0) = BAD; write(0, -1) = BAD; write(0, 4) = BAD; write(LEAST, 0) = BAD; write(MOST, 0) = BAD; write(0, LEAST) = BAD
      write(0, MOST) = BAD; count(8) = 0; write(0, 0) = NULL; count(8) = 1; write(40319, 3) = NULL; write(120, 1) = NULL
      sheet(0, 2, 5) = 5; sheet(3, 2, 5) = 5; write(-1, 0) = BAD; write(40320, 0) = BAD; write(0, 0) = 5; write(40319, 3) = 0; write(0, 3) = 5
      lose(0) = 5; write(0, 0) = NULL; write(-1, 0) = BAD; write(40320, 0) = BAD; things(8) = 5; write(40320, 3) = BAD; write(40319, 3) = 5
      """);
  }

  private static void count(Sentences s) {
    String sentence = "0 THINGS, 1 GROUPS, 2 TAKEN ones, 3 NODES, 4 TURNING ones, 5 ROWS that are PERMITTED, 6 bytes of THE TREE, 7 bytes of TOLD, "
      + "8 the number of the latest FINDING (0 before any).";
    s.says(28, sentence, """
      count(8) = 0; things(1) = 5; count(0) = 1; count(1) = 0; count(2) = 0; count(3) = 0; count(4) = 0; count(5) = 1; count(6) = 1; count(7) = 0; count(8) = 0
      things(8) = 1; count(0) = 8; count(3) = 1; count(4) = 0; count(5) = 40320; count(6) = 10
      group(ab) = 1; group(bc) = 1; group(ac) = 0; group(de) = 1; group(ef) = 1; group(df) = 0; group(gh) = 1; 3 x group(be) = 0; type abcdefgh = 8
      shown = ([abc][def](gh)); count(1) = 10; count(2) = 5; count(3) = 4; count(4) = 2; count(5) = 48; count(6) = 16; count(7) = 8
      """);
    s.says(28, sentence, """
      lose(0) = NULL; count(8) = 1; sheet(0, 0, 1) = 1; get(0, 0, 1) = LEAST; count(8) = 2; get(0, 1, 1) = LEAST; count(8) = 3; sheet(1, 1, 1) = 1; copy(0, 0, 1, 0, 0) = STORE
      count(8) = 4; sheet(0, 0, -1) = SIZE; count(8) = 5; group(0) = BAD; back() = NOT; count(8) = 5; put(0, 0, 0, 1) = 1; count(8) = 5; lose(0) = 1; lose(0) = NULL; count(8) = 1
      """);
    s.says(28, "BAD.", """
      count(-1) = BAD; count(0) = 5; count(8) = 0; count(9) = BAD; count(LEAST) = BAD; count(MOST) = BAD; count(8) = 0
      """);
  }

  private static void digest(Sentences s) {
    String sentence = "h is 17; h becomes 31 h and each of (of each thing all that is told of it, then of the next one): count() 0 to 7; of GROUPS taken(), "
      + "reason(); many(); of -1 to 39 tree(); of 0 to 6 node(it, 0 to 2); of ROWS 0, 1, 2, 5, 100 and places 0 to 7 row(it, that); of sets 3, 6, 12, 5, 7, 14 "
      + "may(), must(); of THINGS a of all and b of all apart(a, b, 0 and 1); spare(), fault(), misses(), number(); as longs that wrap.";
    // The first one is told by a shared test; all are the model's, too.
    s.says(29, sentence, "type ab = 2; digest() = 3220753129052809373");
    s.says(29, sentence, "type ab = 2; sheet(0, 0, 3) = 3; put(0, 0, 0, 1) = 1; lose(1) = NULL; digest() = 3220753129052809373");
    for (String state : new String[] {"", "things(1)", "things(1); type a", "things(2); group(ab)", "things(8)", "group(ab); group(bc); group(ac); told cbade",
      "things(8); group(ab); group(bc); group(ac); group(cd); group(bd); group(gh); group(fg); group(fh); group(ab); group(ah); told abcdefgh",
      "group(gh); group(ab); told abcdea", "group(abc)", "group(bcd)", "things(4)", "group(bc); group(cd); group(bd)", "group(ac)", "things(3); group(ab); group(bc); group(ac); told acb"}) {
      s.says(29, sentence, state + "; digest() = " + wrapped(state));
    }
  }

  /** All answers put together without any wrap-around, and wrapped at the end. */
  private static String wrapped(String state) {
    OrderTrees x = new OrderTrees();
    for (Step step : Step.script(state)) step.call(x);
    BigInteger h = BigInteger.valueOf(17);
    for (long each : answers(x)) h = h.multiply(BigInteger.valueOf(31)).add(BigInteger.valueOf(each));
    BigInteger numbers = BigInteger.ONE.shiftLeft(64);
    BigInteger low = h.mod(numbers);
    return (low.testBit(63) ? low.subtract(numbers) : low).toString();
  }

  private static List<Long> answers(OrderTrees x) {
    List<Long> all = new ArrayList<>();
    for (int what = 0; what <= 7; what++) all.add((long) x.count(what));
    for (int i = 0; i < x.count(1); i++) { all.add((long) x.taken(i)); all.add((long) x.reason(i)); }
    all.add(x.many());
    for (int i = -1; i <= 39; i++) all.add((long) x.tree(i));
    for (int i = 0; i <= 6; i++) for (int what = 0; what <= 2; what++) all.add((long) x.node(i, what));
    for (int i : new int[] {0, 1, 2, 5, 100}) for (int place = 0; place <= 7; place++) all.add((long) x.row(i, place));
    for (int set : new int[] {3, 6, 12, 5, 7, 14}) { all.add((long) x.may(set)); all.add((long) x.must(set)); }
    for (int a = 0; a < x.count(0); a++) for (int b = 0; b < x.count(0); b++) for (int what = 0; what <= 1; what++) all.add((long) x.apart(a, b, what));
    all.add((long) x.spare());
    all.add((long) x.fault());
    all.add((long) x.misses());
    all.add((long) x.number());
    return all;
  }
}

/** What the document says ahead of its promises: the edges of each of its words. */
final class TermEdges {
  private static final int TERMS = Sentences.TERMS;

  private TermEdges() {}

  static void tell(Sentences s) {
    things(s);
    calls(s);
    groups(s);
    thingsThatThereAreNot(s);
    tree(s);
    reduced(s);
    rowNumbers(s);
    sheets(s);
    reason(s);
    mayMustApartSpare(s);
    told(s);
    orderOfRefusals(s);
    refusalsChangeNothing(s);
  }

  private static void things(Sentences s) {
    s.says(TERMS, "THINGS are a to h (0 to 7), N of them (1 to 8; 5 at first), 0 on.", """
      count(0) = 5; shown = (abcde)
      things(0) = BAD; things(1) = 5; shown = a
      things(2) = 1; shown = (ab); row 1 = ba
      things(7) = 2; shown = (abcdefg); may(g) = 1; may(h) = BAD
      things(8) = 7; shown = (abcdefgh); may(h) = 1; row 40319 = hgfedcba
      things(9) = BAD; count(0) = 8
      """);
  }

  private static void calls(Sentences s) {
    s.says(TERMS, "An object is used for at most 512 calls after it has been made; what later calls answer is free.", "");
    OrderTrees x = new OrderTrees();
    x.things(8);
    for (int i = 0; i < 7; i++) x.group(3 << i);
    x.group(129);
    for (int i = 9; i < 511; i++) x.spare();
    s.due("the 512th call, reason(7)", x.reason(7), 127);
  }

  private static void groups(Sentences s) {
    s.says(TERMS, "GROUPS are told one behind another, 10 at most (0 on), each of two THINGS or more, as bits.", """
      things(8) = 5; taken(0) = BAD
      group(h) = BAD; group(gh) = 1; taken(0) = 1; taken(1) = BAD
      group(abcdefgh) = 1; group(fg) = 1; group(fh) = 0
      6 x group(ab) = 1; count(1) = 10
      taken(3) = 0; taken(9) = 1; taken(10) = BAD
      group(ab) = FULL; count(1) = 10
      """);
    s.says(TERMS, "A ROW is all THINGS, each once, one behind another.", """
      things(1) = 5; row 0 = a; row 1 = none
      things(3) = 1
      row 0 = abc; row 1 = acb; row 2 = bac; row 3 = bca; row 4 = cab; row 5 = cba; row 6 = none
      told abc; number() = 0; told ab; number() = NOT; told abb; number() = NOT; told abcc; number() = NOT
      things(8) = 3; row 0 = abcdefgh; row 40319 = hgfedcba
      """);
    s.says(TERMS, "A ROW HAS a GROUP, if its THINGS are side by side in it, in whatever order.", """
      group(abc) = 1
      told abcde; misses() = 0; told acbde; misses() = 0; told bacde; misses() = 0
      told bcade; misses() = 0; told cabde; misses() = 0; told cbade; misses() = 0
      told dabce; misses() = 0; told decba; misses() = 0
      told abdce; misses() = {0}; told adbce; misses() = {0}; told abdec; misses() = {0}; told cdeba; misses() = {0}
      """);
    s.says(TERMS, "Each GROUP in turn is TAKEN, if any ROW HAS it and all that were TAKEN ahead; else it is REFUSED.", """
      group(ab) = 1; group(bc) = 1; group(ac) = 0; group(bd) = 0; group(cd) = 1; group(ad) = 0; group(abc) = 1
      taken(0) = 1; taken(1) = 1; taken(2) = 0; taken(3) = 0; taken(4) = 1; taken(5) = 0; taken(6) = 1
      4 x back() = any; group(ad) = 1; group(cd) = 0
      3 x back() = any; back() = 1; group(ac) = 1; group(bc) = 0
      """);
    s.says(TERMS, "ROWS that HAVE all that are TAKEN are PERMITTED.", """
      many() = 120
      group(ab) = 1; group(bc) = 1; group(ac) = 0; many() = 12
      told abcde; number() = 0
      told acbde; number() = NONE; told bacde; number() = NONE; told abdec; number() = NONE
      things(2) = 5; many() = 2; things(1) = 2; many() = 1
      """);
  }

  private static void thingsThatThereAreNot(Sentences s) {
    String sentence = "(A THING that there is not, by N, is in no GROUP; one with less than two THINGS then is TAKEN, and says nothing.)";
    s.says(TERMS, sentence, """
      group(fg) = 1; group(ef) = 1; group(de) = 1; group(ce) = 1; group(be) = 0
      shown = (ab[ced]); count(2) = 4; reason(4) = {2 3}; spare() = {0 1}
      things(6) = 5; taken(4) = 0; taken(3) = 0; taken(2) = 1; reason(3) = {1 2}; shown = (abc[def]); spare() = {0}
      things(7) = 6; shown = (abc[defg]); spare() = 0
      things(5) = 7; shown = (ab[ced]); taken(3) = 1; spare() = {0 1}
      """);
    s.says(TERMS, sentence, """
      things(8) = 5
      group(gh) = 1; group(ab) = 1; group(bc) = 1; group(ach) = 0
      shown = ([abc]def(gh)); reason(3) = {1 2}; spare() = 0; count(2) = 3
      things(7) = 8; shown = ([abc]defg); taken(0) = 1; taken(3) = 0; reason(3) = {1 2}; spare() = {0}
      things(3) = 7; shown = [abc]; reason(3) = {1 2}; told acb; misses() = {1}
      things(2) = 3; shown = (ab); count(2) = 4; reason(3) = NOT; spare() = {0 1 2 3}; told ba; misses() = 0
      things(1) = 2; shown = a; count(2) = 4; spare() = {0 1 2 3}; told a; misses() = 0; number() = 0
      things(8) = 1; shown = ([abc]def(gh)); taken(3) = 0; reason(3) = {1 2}; count(2) = 3
      """);
    s.says(TERMS, sentence, """
      things(1) = 5
      group(ab) = 1; group(bc) = 1; group(ac) = 1; group(gh) = 1; shown = a
      things(3) = 1; taken(2) = 0; reason(2) = {0 1}; shown = [abc]
      things(8) = 3; taken(2) = 0; taken(3) = 1; shown = ([abc]def(gh))
      back() = 3; back() = 2; things(1) = 8; group(ac) = 1; things(2) = 1; taken(2) = 1
      things(3) = 2; taken(2) = 0
      """);
    // With d there, ac is refused and bc is taken; without it the other way about.
    s.says(TERMS, sentence, """
      things(4) = 5
      group(ad) = 1; group(ab) = 1; group(ac) = 0; group(bc) = 1; shown = [cbad]; reason(2) = {0 1}
      things(3) = 4; taken(2) = 1; taken(3) = 0; reason(3) = {1 2}; reason(2) = NOT; shown = [bac]; spare() = {0}
      things(4) = 3; taken(2) = 0; taken(3) = 1; shown = [cbad]
      """);
  }

  private static void tree(Sentences s) {
    s.says(TERMS, "THE TREE has THINGS as its leaves, each once, and nodes of two kinds: FREE ones, of two or more, whose parts may "
      + "be in any order, and TURNING ones, of three or more, whose parts may be in the order told or the other way about; so that it "
      + "has just the PERMITTED ROWS.", """
      things(2) = 5; node(0, 0) = 0; node(0, 1) = 2; row 0 = ab; row 1 = ba; row 2 = none
      things(3) = 2; node(0, 1) = 3; many() = 6
      group(ab) = 1; group(bc) = 1; shown = [abc]; node(0, 0) = 1; node(0, 1) = 3; many() = 2
      row 0 = abc; row 1 = cba; row 2 = none
      things(8) = 3; group(cd) = 1; group(de) = 1; group(ef) = 1; group(fg) = 1; group(gh) = 1
      shown = [abcdefgh]; node(0, 0) = 1; node(0, 1) = 8; many() = 2
      row 0 = abcdefgh; row 1 = hgfedcba; row 2 = none
      """);
    s.says(TERMS, "(For two there is no difference: FREE.)", """
      things(2) = 5; group(ab) = 1; shown = (ab); node(0, 0) = 0; count(4) = 0
      things(4) = 2; group(cd) = 1; shown = ((ab)(cd)); node(0, 0) = 0; node(1, 0) = 0; node(2, 0) = 0; node(3, 0) = NONE
      things(3) = 4; shown = ((ab)c); count(4) = 0
      """);
    s.says(TERMS, "It is SHOWN thus: a THING by its letter; a FREE node in ( ), a TURNING one in [ ]; parts of a FREE one by their "
      + "least THINGS, parts of a TURNING one in that direction in which the least THING of the first is less than that of the last.", """
      things(8) = 5
      group(ad) = 1; group(ae) = 1; shown = ([dae]bcfgh)
      group(abde) = 1; group(bc) = 1; shown = ([[dae]bc]fgh)
      group(gh) = 1; group(fgh) = 1; shown = ([[dae]bc](f(gh)))
      """);
    s.says(TERMS, "NODES are numbered as they are SHOWN, by their first signs, 0 on (leaves not).", """
      things(8) = 5
      group(gh) = 1; group(abc) = 1; group(cde) = 1; shown = ([(ab)c(de)]f(gh))
      node(0, 2) = 255; node(1, 2) = 31; node(2, 2) = 3; node(3, 2) = 24; node(4, 2) = 192; node(5, 2) = NONE
      node(0, 0) = 0; node(1, 0) = 1; node(2, 0) = 0; node(0, 1) = 3; node(1, 1) = 3; node(4, 1) = 2; count(3) = 5
      things(1) = 8; node(0, 2) = NONE; count(3) = 0
      """);
    for (int n = 1; n <= 8; n++) {
      String all = n == 1 ? "a" : "(" + "abcdefgh".substring(0, n) + ")";
      s.says(TERMS, "The TREE by the first GROUP is one FREE node of all THINGS (if N is 1: the THING alone).",
        "things(" + n + ") = 5; shown = " + all + "; count(3) = " + Math.min(n - 1, 1) + "; count(4) = 0");
    }
  }

  private static void reduced(Sentences s) {
    String sentence = "How it is reduced by a GROUP: a part is FULL, if all its THINGS are of the GROUP, EMPTY, if none is, else PARTIAL.";
    s.says(TERMS, sentence, """
      group(abcde) = 1; shown = (abcde)       # every part is FULL
      group(abcd) = 1; shown = ((abcd)e)      # one is EMPTY
      group(abcd) = 1; shown = ((abcd)e)      # a node as it is
      group(de) = 1; shown = [(abc)de]        # one is PARTIAL
      group(ab) = 1; shown = [((ab)c)de]
      group(bcd) = 1; shown = [abcde]         # PARTIAL ones one in another
      """);
    s.says(TERMS, sentence, """
      things(6) = 5
      group(ab) = 1; group(cd) = 1; group(bcef) = 1; shown = [ab(ef)cd]   # two PARTIAL ones, FULL ones between
      group(bef) = 1; shown = [ab(ef)cd]
      group(cdf) = 1; shown = [abefcd]
      group(af) = 0; shown = [abefcd]
      """);
    s.says(TERMS, sentence, """
      things(8) = 5
      group(ab) = 1; group(cd) = 1; group(ef) = 1; group(ace) = 0; shown = ((ab)(cd)(ef)gh)   # three PARTIAL ones
      group(ac) = 1; shown = ([bacd](ef)gh)
      group(bc) = 0; group(acef) = 0; group(bh) = 1; shown = ([dcabh](ef)g)
      """);
    s.says(TERMS, sentence, """
      things(8) = 5
      group(ab) = 1; group(cd) = 1; group(de) = 1; shown = ((ab)[cde]fgh)
      group(bd) = 0; group(ad) = 0; group(bdf) = 0      # the second PARTIAL one has them within
      group(bc) = 1; shown = ([abcde]fgh); group(df) = 0; group(ef) = 1; shown = ([abcdef]gh)
      """);
    s.says(TERMS, sentence, """
      things(8) = 5
      group(ad) = 1; group(ae) = 1; group(abde) = 1; group(bc) = 1; shown = ([[dae]bc]fgh)
      group(ab) = 0; group(abc) = 0; group(af) = 0; group(acf) = 0; shown = ([[dae]bc]fgh)
      group(bd) = 1; shown = ([cbdae]fgh)
      """);
    s.says(TERMS, sentence, """
      things(8) = 5
      group(ab) = 1; group(cd) = 1; group(abcd) = 1; shown = (((ab)(cd))efgh)
      group(ace) = 0; group(bdh) = 0      # a PARTIAL one with two PARTIAL ones in it
      group(ac) = 1; shown = ([bacd]efgh); group(ace) = 0; group(acde) = 1; shown = ([bacde]fgh)
      """);
    s.says(TERMS, sentence, """
      things(8) = 5
      group(ab) = 1; group(cd) = 1; group(abcd) = 1; group(abcde) = 1; shown = ((((ab)(cd))e)fgh)
      group(acef) = 0; group(ef) = 1; shown = ([((ab)(cd))ef]gh)      # nothing of the refused one is left
      """);
    String[] groups = {"group(ab)", "group(bcd)", "group(de)", "group(cde)"};
    for (int code = 0; code < 256; code++) {
      int[] order = {code & 3, code >> 2 & 3, code >> 4 & 3, code >> 6};
      if ((1 << order[0] | 1 << order[1] | 1 << order[2] | 1 << order[3]) != 15) continue;
      StringBuilder script = new StringBuilder("things(6) = 5");
      for (int i : order) script.append("; ").append(groups[i]).append(" = 1");
      s.says(TERMS, "(Any way that gives the TREE told is right: there is just one.)", script + "; shown = ([abcde]f)");
    }
  }

  private static void rowNumbers(Sentences s) {
    String ways = "a FREE one of k parts has WAYS 0 to k! less 1, orders of its parts as they are SHOWN, as words of 0 to k less 1 in a dictionary.";
    s.says(TERMS, "ROWS are numbered by THE TREE, 0 on: the first node (by its number) that differs between two decides, by its WAY, the less one first:", """
      things(4) = 5; group(ab) = 1; group(cd) = 1; shown = ((ab)(cd))
      row 0 = abcd; row 1 = abdc; row 2 = bacd; row 3 = badc
      row 4 = cdab; row 5 = dcab; row 6 = cdba; row 7 = dcba; row 8 = none
      told dcab; number() = 5; told cdba; number() = 6
      """);
    s.says(TERMS, "a TURNING one has the WAYS 0 (as SHOWN), 1 (turned);", """
      group(ad) = 1; group(ae) = 1; shown = ([dae]bc)
      row 0 = daebc; row 1 = eadbc; row 2 = daecb; row 3 = eadcb
      told daebc; number() = 0; told eadbc; number() = 1
      group(abde) = 1; group(bc) = 1; shown = [[dae]bc]
      row 0 = daebc; row 1 = eadbc; row 2 = cbdae; row 3 = cbead; row 4 = none
      """);
    s.says(TERMS, "a TURNING one has the WAYS 0 (as SHOWN), 1 (turned);", """
      group(cd) = 1; group(de) = 1; shown = (ab[cde])
      row 0 = abcde; row 1 = abedc; row 11 = edcba; told abedc; number() = 1; told edcba; number() = 11
      """);
    s.says(TERMS, ways, """
      things(3) = 5; row 3 = bca; row 4 = cab; told bca; number() = 3; told cab; number() = 4
      row 0 = abc; row 5 = cba; row 6 = none
      things(8) = 3; row 0 = abcdefgh; row 40319 = hgfedcba; row 5039 = ahgfedcb; row 5040 = bacdefgh
      told hgfedcba; number() = 40319; told ahgfedcb; number() = 5039; told bacdefgh; number() = 5040
      """);
    s.says(TERMS, ways, """
      group(bd) = 1; shown = (a(bd)ce)
      row 0 = abdce; row 1 = adbce; row 2 = abdec; row 4 = acbde; row 12 = bdace; row 47 = ecdba; row 48 = none
      told ecdba; number() = 47; told dbace; number() = 13
      """);
  }

  private static void sheets(Sentences s) {
    s.says(TERMS, "SHEETS 0 .. 3 are LOST (at first) or a row of a FORM: 0 bytes, 1 shorts, 2 ints, of 0 to 60 items (0 at first).", """
      lose(-1) = BAD; lose(0) = NULL; lose(1) = NULL; lose(2) = NULL; lose(3) = NULL; lose(4) = BAD
      sheet(0, 0, 60) = 60; sheet(1, 1, 60) = 60; sheet(2, 2, 60) = 60; sheet(3, 2, 0) = 0
      get(0, 0, 0) = 0; get(0, 0, 59) = 0; get(1, 1, 0) = 0; get(1, 1, 59) = 0; get(2, 2, 0) = 0; get(2, 2, 59) = 0
      get(0, 0, 60) = LEAST; get(1, 1, 60) = LEAST; get(2, 2, 60) = LEAST; get(3, 2, 0) = LEAST
      put(0, 0, 0, 128) = 1; get(0, 0, 0) = -128
      put(1, 1, 0, 128) = 1; get(1, 1, 0) = 128; put(1, 1, 0, 32768) = 1; get(1, 1, 0) = -32768
      put(2, 2, 0, 32768) = 1; get(2, 2, 0) = 32768; put(2, 2, 0, LEAST) = 1; get(2, 2, 0) = LEAST
      lose(0) = 60; lose(1) = 60; lose(2) = 60; lose(3) = 0; lose(3) = NULL
      """);
    s.says(TERMS, "FINDINGS (answers -10 less the number; they change nothing but count() 8): 1 NULL: the SHEET is LOST; 2 INDEX: there "
      + "is no such item; 3 CAST: it has another FORM; 4 STORE: unlike FORMS; 5 SIZE: below 0.", """
      count(8) = 0; lose(0) = -11; count(8) = 1
      sheet(0, 0, 1) = 1; sheet(1, 1, 1) = 1; count(8) = 1
      put(0, 0, 1, 5) = -12; count(8) = 2; put(0, 1, 0, 5) = -13; count(8) = 3
      copy(0, 0, 1, 0, 1) = -14; count(8) = 4; sheet(0, 0, -1) = -15; count(8) = 5
      put(0, 0, 0, 5) = 1; count(8) = 5; things(0) = BAD; back() = NOT; count(8) = 5
      get(0, 0, 0) = 5; count(8) = 5; get(0, 0, 1) = LEAST; count(8) = 2; read(3) = -11; count(8) = 1
      """);
  }

  private static void reason(Sentences s) {
    String sentence = "REASON of a REFUSED GROUP: of the GROUPS that were TAKEN ahead of it, all at first, in order each is left out, if "
      + "no ROW HAS the others that are left and this GROUP even so: those that are left, as bits.";
    s.says(TERMS, sentence, """
      group(ab) = 1; group(ab) = 1; group(bc) = 1; group(bc) = 1; group(bd) = 0; reason(4) = {1 3}
      group(ac) = 0; reason(5) = {1 3}; group(abc) = 1; group(be) = 0; reason(7) = {1 3}; reason(4) = {1 3}
      """);
    s.says(TERMS, sentence, """
      things(8) = 5
      group(ab) = 1; group(bc) = 1; group(cd) = 1; group(de) = 1; group(ef) = 1; group(fg) = 1; group(gh) = 1
      group(ah) = 0; reason(7) = {0 1 2 3 4 5 6}      # none can be left out
      group(ac) = 0; reason(8) = {1 2}; group(fh) = 0; reason(9) = {5 6}      # c cannot be beside a, b and d
      things(7) = 8; reason(7) = NOT; reason(8) = {1 2}; reason(9) = NOT
      """);
    s.says(TERMS, sentence, """
      group(ah) = 1; group(ab) = 1; group(cd) = 1; group(bc) = 1; group(abcde) = 1; group(ac) = 0
      reason(5) = {2 3}      # ac, bc, cd cannot be by themselves, so that ab is left out
      group(ad) = 0; reason(6) = {1 2 3}; group(bd) = 0; reason(7) = {2 3}; group(bde) = 0; reason(8) = {2 3}
      """);
    s.says(TERMS, sentence, """
      things(4) = 5; group(abc) = 1; group(bcd) = 1; group(ac) = 1; shown = [acbd]
      group(ab) = 0; reason(3) = {1 2}      # a is between b and c by ab and ac, which bcd refuses
      """);
  }

  private static void mayMustApartSpare(Sentences s) {
    s.says(TERMS, "MAY of a set of THINGS: a ROW that is PERMITTED has them side by side; MUST: all have.", """
      may(0) = 1; must(0) = 1; may(a) = 1; must(a) = 1; may(e) = 1; must(e) = 1
      may(ab) = 1; must(ab) = 0; may(abcde) = 1; must(abcde) = 1; may(bcde) = 1; must(bcde) = 0
      group(ab) = 1; group(bc) = 1; group(ac) = 0
      may(ab) = 1; must(ab) = 1; may(abc) = 1; must(abc) = 1; may(ac) = 0; must(ac) = 0; may(cd) = 1; must(cd) = 0
      may(bd) = 0; must(bd) = 0; may(de) = 1; must(de) = 0; may(ade) = 1; must(ade) = 0; may(bcde) = 1; must(bcde) = 0
      may(acde) = 0; must(acde) = 0
      """);
    s.says(TERMS, "APART of two THINGS: the least, the greatest number of THINGS between them in PERMITTED ROWS.", """
      apart(0, 4, 0) = 0; apart(0, 4, 1) = 3
      group(ab) = 1; group(bc) = 1; group(abcd) = 1
      apart(0, 2, 0) = 1; apart(0, 2, 1) = 1; apart(0, 3, 0) = 0; apart(0, 3, 1) = 2; apart(1, 3, 0) = 1; apart(1, 3, 1) = 1
      apart(0, 4, 0) = 0; apart(0, 4, 1) = 3; apart(1, 4, 0) = 1; apart(1, 4, 1) = 2; apart(3, 4, 0) = 0; apart(3, 4, 1) = 3
      things(2) = 5; apart(0, 1, 0) = 0; apart(0, 1, 1) = 0
      things(8) = 2; apart(7, 6, 0) = 0; apart(7, 6, 1) = 6; apart(0, 7, 1) = 6
      """);
    s.says(TERMS, "SPARE are TAKEN GROUPS without each of which alone (all other TAKEN ones there) as many ROWS are PERMITTED.", """
      spare() = 0
      group(ab) = 1; spare() = 0; group(ab) = 1; spare() = {0 1}   # each alone
      group(bc) = 1; group(ac) = 0; spare() = {0 1}                # not bc: that ac would be TAKEN without it is nothing to it
      group(abc) = 1; spare() = {0 1 4}
      group(abcde) = 1; group(gh) = 1; group(ah) = 1; spare() = {0 1 4 5 6 7}
      group(cd) = 1; group(ad) = 0; spare() = {0 1 4 5 6 7}
      things(2) = 5; spare() = {0 1 2 3 4 5 6 7 8 9}
      """);
    s.says(TERMS, "SPARE are TAKEN GROUPS without each of which alone (all other TAKEN ones there) as many ROWS are PERMITTED.", """
      group(bcde) = 1; group(abcde) = 1; group(bc) = 1; group(ab) = 1; shown = [abc(de)]; spare() = {1}
      group(de) = 1; spare() = {1 4}; group(cd) = 1; spare() = {0 1 4}      # ab, bc, cd with de or with bcde
      """);
  }

  private static void told(Sentences s) {
    s.says(TERMS, "TOLD is a text of up to 8 bytes, a ROW;", """
      things(8) = 5; type abcdefg = 7; type h = 8; type a = FULL; count(7) = 8; fault() = NONE; number() = 0
      undo() = 7; type a = 8; type b = FULL; fault() = 7
      """);
    s.says(TERMS, "its FAULT is the place of the first byte with which it cannot go on (one that is no THING, or is there already; an "
      + "empty one is well; of one that is not all, its end).", """
      fault() = NONE
      type(96) = 1; fault() = 0; wipe() = 1; type(102) = 1; fault() = 0; wipe() = 1; type(0) = 1; fault() = 0
      wipe() = 1; type(255) = 1; fault() = 0; wipe() = 1; type(65) = 1; fault() = 0
      told a; fault() = 1; told e; fault() = 1; told aa; fault() = 1; told af; fault() = 1; told abcd; fault() = 4
      told abcda; fault() = 4; told abcdd; fault() = 4; told abcdf; fault() = 4; told ffab; fault() = 0; told aabf; fault() = 1
      told edcba; fault() = NONE; told edcbaa; fault() = 5; told edcbaf; fault() = 5; told abcdeabc; fault() = 5
      """);
    s.says(TERMS, "its FAULT is the place of the first byte with which it cannot go on (one that is no THING, or is there already; an "
      + "empty one is well; of one that is not all, its end).", """
      things(1) = 5; fault() = NONE; told a; fault() = NONE; told b; fault() = 0; told aa; fault() = 1; told ab; fault() = 1
      things(2) = 1; fault() = NONE; things(3) = 2; fault() = 2; things(1) = 3; fault() = 1
      things(8) = 1; told hgfedcb; fault() = 7; type a = 8; fault() = NONE; things(7) = 8; fault() = 0
      """);
    s.says(TERMS, "With a FAULT, or empty, it is none.", """
      misses() = NOT; number() = NOT
      told abcd; misses() = NOT; number() = NOT; type e = 5; misses() = 0; number() = 0
      type e = 6; misses() = NOT; number() = NOT; undo() = 5; undo() = 4; type d = 5; misses() = NOT; number() = NOT
      undo() = 4; type e = 5; number() = 0; things(6) = 5; misses() = NOT; number() = NOT; things(4) = 6; number() = NOT
      things(5) = 4; number() = 0; wipe() = 5; misses() = NOT; number() = NOT
      """);
    s.says(TERMS, "MISSES of it: GROUPS (TAKEN or REFUSED) that it does not HAVE, as bits.", """
      things(8) = 5; told abcdefgh; misses() = 0
      group(ac) = 1; group(ad) = 1; group(ae) = 0; group(af) = 0; group(ag) = 0
      group(ah) = 0; group(bd) = 1; group(be) = 1; group(bf) = 0; group(bg) = 0
      misses() = {0 1 2 3 4 5 6 7 8 9}; back() = 9; misses() = {0 1 2 3 4 5 6 7 8}
      told acdbefgh; misses() = {1 2 3 4 5 8}; number() = NONE
      things(4) = 8; shown = [bdac]; told cadb; misses() = 0; number() = 1; told acdb; misses() = {1}
      """);
  }

  private static void orderOfRefusals(Sentences s) {
    String sentence = "Refusals, the first that fits, in the order told at each act: BAD -2 (a number not as told, no such thing), NULL, "
      + "NOT -3 (as told), FULL -4, other FINDINGS.";
    s.says(TERMS, sentence, """
      10 x group(ab) = 1
      group(ab) = FULL; group(0) = BAD; group(a) = BAD; group(h) = BAD; group(256) = BAD; group(-1) = BAD   # BAD, FULL
      type abcdefgh = 8; type(97) = FULL; type(-1) = BAD; type(256) = BAD                                # BAD, FULL
      """);
    s.says(TERMS, sentence, """
      sheet(0, 0, -1) = SIZE; sheet(-1, 0, -1) = BAD; sheet(4, 0, -1) = BAD; sheet(0, -1, -1) = BAD; sheet(0, 3, LEAST) = BAD
      put(0, -1, 0, 0) = BAD; put(0, 3, 0, 0) = BAD; put(0, 3, -1, 0) = BAD                # BAD, NULL, INDEX
      put(0, 0, -1, 0) = NULL; put(0, 0, 0, 0) = NULL; put(0, 2, 60, 0) = NULL            # NULL, INDEX
      get(0, 3, 0) = LEAST; count(8) = 1; get(0, 0, -1) = LEAST; count(8) = 1
      sheet(0, 1, 2) = 2; sheet(0, 1, -1) = SIZE
      put(0, 3, 0, 0) = BAD; put(0, -1, 2, 0) = BAD; put(-1, 1, 2, 0) = BAD; put(4, 0, -1, 0) = BAD   # BAD, CAST, INDEX
      put(0, 0, 2, 0) = CAST; put(0, 2, -1, 0) = CAST; put(0, 1, 2, 0) = INDEX            # CAST, INDEX
      get(0, 3, 2) = LEAST; count(8) = 2; get(0, 0, 2) = LEAST; count(8) = 3; get(0, 1, 2) = LEAST; count(8) = 2
      get(4, 0, 2) = LEAST; count(8) = 2
      """);
    s.says(TERMS, sentence, """
      copy(0, 0, 4, 0, 0) = BAD; copy(-1, 0, 0, 0, 0) = BAD; copy(4, -1, 0, -1, -1) = BAD; copy(0, -1, -1, 0, 0) = BAD   # BAD, NULL, INDEX
      copy(0, -1, 1, -1, -1) = NULL
      sheet(0, 0, 2) = 2; copy(0, 3, 1, 0, 9) = NULL; copy(1, 0, 0, 3, 9) = NULL     # NULL, INDEX
      sheet(1, 1, 2) = 2; copy(0, 3, 4, 0, 0) = BAD
      copy(0, 3, 1, 0, 0) = STORE; copy(0, 0, 1, 0, -1) = STORE; copy(1, 0, 0, -1, 0) = STORE     # STORE, INDEX
      copy(0, 3, 0, 0, 0) = INDEX
      write(-1, 3) = BAD; write(40320, 3) = BAD; write(0, 4) = BAD; write(40319, 3) = NULL; write(0, 3) = NULL      # BAD, NULL
      """);
    s.says(TERMS, sentence, """
      node(1, 0) = NONE; node(1, 3) = BAD; node(6, -1) = BAD; node(7, 3) = BAD
      row(120, 8) = BAD; row(40320, 5) = BAD; row(-1, 7) = BAD; row(120, -1) = BAD; row(120, 7) = NONE
      group(ab) = 1; reason(0) = NOT; reason(1) = BAD; reason(-1) = BAD
      apart(0, 0, 2) = BAD; apart(5, 5, 0) = BAD; tree(9) = NONE; tree(40) = BAD
      """);
  }

  private static void refusalsChangeNothing(Sentences s) {
    String sentence = "They change nothing (FINDINGS but count() 8).";
    String always = """
      things(0) = BAD; things(9) = BAD; group(1) = BAD; group(256) = BAD
      taken(-1) = BAD; taken(10) = BAD; reason(-1) = BAD; reason(10) = BAD; read(-1) = BAD; read(4) = BAD
      tree(-2) = BAD; tree(40) = BAD; node(7, 0) = BAD; node(0, 3) = BAD; row(40320, 0) = BAD; row(0, 8) = BAD
      may(256) = BAD; must(256) = BAD; apart(0, 0, 0) = BAD; apart(0, 8, 0) = BAD; type(-1) = BAD; type(256) = BAD
      sheet(4, 0, 0) = BAD; sheet(0, 3, 0) = BAD; sheet(0, 0, 61) = BAD; sheet(0, 2, -1) = SIZE; lose(4) = BAD
      put(4, 0, 0, 1) = BAD; put(0, 3, 0, 1) = BAD; get(4, 0, 0) = LEAST; get(0, 3, 0) = LEAST
      copy(4, 0, 0, 0, 0) = BAD; copy(0, 0, 4, 0, 0) = BAD; write(40320, 0) = BAD; write(0, 4) = BAD; count(9) = BAD
      """;
    s.says(TERMS, sentence, always + """
      back() = NOT; undo() = NOT; misses() = NOT; number() = NOT
      read(0) = NULL; lose(0) = NULL; put(0, 0, 0, 1) = NULL; get(0, 0, 0) = LEAST; write(0, 0) = NULL
      copy(0, 0, 1, 0, 0) = NULL; copy(0, 0, 0, 0, 0) = NULL
      """);
    s.says(TERMS, sentence, "things(1) = 5\n" + always + "back() = NOT; may(b) = BAD; must(b) = BAD; apart(0, 1, 0) = BAD; undo() = NOT");
    s.says(TERMS, sentence, """
      things(8) = 5
      group(ab) = 1; group(bc) = 1; group(ac) = 0; group(cd) = 1; group(bd) = 0; group(gh) = 1; group(fg) = 1; group(fh) = 0; 2 x group(ab) = 1
      type abcdefgh = 8
      sheet(0, 0, 60) = 60; put(0, 0, 0, 7) = 1; put(0, 0, 59, -7) = 1; sheet(1, 1, 60) = 60; put(1, 1, 59, 300) = 1
      sheet(2, 2, 60) = 60; put(2, 2, 59, MOST) = 1; sheet(3, 2, 1) = 1; put(3, 2, 0, 99) = 1
      """ + always + """
      group(ef) = FULL; type(97) = FULL; reason(0) = NOT; reason(9) = NOT
      sheet(2, 0, -1) = SIZE; put(0, 1, 0, 1) = CAST; put(0, 0, 60, 1) = INDEX; put(0, 0, -1, 1) = INDEX
      get(0, 1, 0) = LEAST; get(0, 0, 60) = LEAST
      copy(0, 0, 1, 0, 1) = STORE; copy(2, 0, 3, 0, 2) = INDEX; copy(2, 59, 3, 0, 2) = INDEX; copy(3, 0, 2, 60, 1) = INDEX
      copy(2, -1, 2, 0, 1) = INDEX; copy(2, 0, 2, -1, 1) = INDEX; copy(2, 0, 2, 0, -1) = INDEX; copy(2, 0, 2, 0, 61) = INDEX
      """);
    s.says(TERMS, sentence, """
      group(ab) = 1; group(bc) = 1; group(ac) = 0; group(gh) = 1; type abcde = 5; type f = 6; sheet(1, 1, 0) = 0
      """ + always + """
      misses() = NOT; number() = NOT; may(f) = BAD; must(abf) = BAD; apart(5, 0, 0) = BAD; taken(4) = BAD; reason(4) = BAD
      read(0) = NULL; lose(0) = NULL; write(0, 0) = NULL; copy(0, 0, 1, 0, 0) = NULL; copy(1, 0, 0, 0, 0) = NULL
      put(1, 1, 0, 1) = INDEX; put(1, 0, 0, 1) = CAST; copy(1, 0, 1, 0, 1) = INDEX; copy(1, 1, 1, 0, 0) = INDEX
      """);
  }
}

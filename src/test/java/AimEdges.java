/** What the document says that it is, ahead of all: a script for each of its clauses. */
final class AimEdges {
  private static final int TERMS = Sentences.TERMS;

  private AimEdges() {}

  static void tell(Sentences s) {
    engine(s);
    rows(s);
    refused(s);
    asked(s);
    told(s);
  }

  private static void engine(Sentences s) {
    s.says(TERMS, "Consecutive arrangement engine: trees of free and reversible nodes reduced by each required group, counting and "
      + "listing all orders, naming the least refusing groups;", """
      things(4) = 5
      group(ab) = 1; shown = ((ab)cd); node(1, 0) = 0; many() = 12
      group(bc) = 1; shown = ([abc]d); node(1, 0) = 1; many() = 4
      row 0 = abcd; row 1 = cbad; row 2 = dabc; row 3 = dcba; row 4 = none
      group(abcd) = 1; group(ac) = 0; reason(3) = {0 1}
      """);
    s.says(TERMS, "things to be put in a row, groups of them that must be side by side;", """
      things(3) = 5; many() = 6; row 0 = abc; row 1 = acb; row 5 = cba
      group(ac) = 1; many() = 4; row 0 = acb; row 1 = cab; row 2 = bac; row 3 = bca; row 4 = none
      """);
    s.says(TERMS, "the tree that has just those rows, drawn anew by each group, shown as text;", """
      things(4) = 5; shown = (abcd)
      group(bcd) = 1; shown = (a(bcd)); row 11 = dcba; row 12 = none
      group(ad) = 1; shown = [ad(bc)]; row 0 = adbc; row 1 = adcb; row 2 = bcda; row 3 = cbda; row 4 = none
      group(ab) = 0; shown = [ad(bc)]
      group(cd) = 1; shown = [adcb]; row 0 = adcb; row 1 = bcda; row 2 = none
      """);
  }

  private static void rows(Sentences s) {
    String sentence = "how many rows there are, each by its number and the number of each;";
    everyRow(s, sentence, 4, "group(ab)", "abcd bacd abdc badc cabd cbad cdab cdba dabc dbac dcab dcba");
    everyRow(s, sentence, 5, "group(bc); group(cd); group(bcde)", "abcde adcbe aebcd aedcb bcdea dcbea ebcda edcba");
    everyRow(s, sentence, 3, "", "abc acb bac bca cab cba");
    everyRow(s, sentence, 2, "", "ab ba");
    everyRow(s, sentence, 1, "", "a");
  }

  private static void everyRow(Sentences s, String sentence, int n, String groups, String rows) {
    String[] all = rows.split(" ");
    StringBuilder script = new StringBuilder("things(" + n + ") = 5; " + groups + "; many() = " + all.length + "; count(5) = " + all.length);
    for (int i = 0; i < all.length; i++) script.append("; row ").append(i).append(" = ").append(all[i]).append("; told ").append(all[i]).append("; number() = ").append(i);
    s.says(TERMS, sentence, script + "; row " + all.length + " = none");
  }

  private static void refused(Sentences s) {
    String sentence = "a group that no row can have beside those that were taken, refused, with the groups that refuse it, none of which "
      + "could be left out;";
    s.says(TERMS, sentence, """
      things(4) = 5
      group(ab) = 1; group(bc) = 1; group(cd) = 1; group(ad) = 0; reason(3) = {0 1 2}
      4 x back() = any; group(bc) = 1; group(cd) = 1; group(ad) = 1      # without the first
      3 x back() = any; group(ab) = 1; group(cd) = 1; group(ad) = 1      # without the second
      3 x back() = any; group(ab) = 1; group(bc) = 1; group(ad) = 1      # without the third
      """);
    s.says(TERMS, sentence, """
      group(de) = 1; group(ab) = 1; group(abc) = 1; group(acd) = 1; shown = [bacde]
      group(bc) = 0; reason(4) = {1 3}      # bc and ab make abc with b inside, which acd refuses
      5 x back() = any; group(acd) = 1; group(bc) = 1; 2 x back() = any; group(ab) = 1; group(bc) = 1
      """);
  }

  private static void asked(Sentences s) {
    s.says(TERMS, "which groups may still be asked for, which are side by side in any case;", """
      group(ab) = 1; group(bc) = 1
      may(cd) = 1; must(cd) = 0; may(bd) = 0; must(bd) = 0; may(abc) = 1; must(abc) = 1
      group(bd) = 0; group(cd) = 1; must(cd) = 1; may(ae) = 1; may(ce) = 0
      """);
    s.says(TERMS, "a row told held against all groups;", """
      group(ab) = 1; group(bc) = 1; group(ac) = 0; group(de) = 1
      told abcde; misses() = {2}; told acbde; misses() = {0}; told adbec; misses() = {0 1 2 3}
      """);
    s.says(TERMS, "which groups say nothing new;", """
      group(ab) = 1; group(bc) = 1; spare() = 0; group(abc) = 1; group(abcde) = 1; group(ac) = 0; spare() = {2 3}
      """);
  }

  private static void told(Sentences s) {
    s.says(TERMS, "what was told undone.", """
      group(ab) = 1; group(bc) = 1; group(ac) = 0; back() = 2; back() = 1; shown = ((ab)cde); back() = 0; shown = (abcde); back() = NOT
      type abcda = 5; fault() = 4; undo() = 4; type e = 5; number() = 0; wipe() = 5; fault() = NONE; undo() = NOT
      """);
  }
}

import java.util.ArrayList;
import java.util.List;

/** All that the face tells of an object but its latest FINDING; the object is used up by it. */
final class Portrait {
  private final OrderTrees x;
  private final List<Long> seen = new ArrayList<>();

  private Portrait(OrderTrees x) { this.x = x; }

  static List<Long> of(OrderTrees x) {
    Portrait portrait = new Portrait(x);
    portrait.see(x.digest());
    for (int s = 0; s < 4; s++) portrait.sheet(s);
    portrait.told();
    portrait.groups();
    return portrait.seen;
  }

  private void see(long answer) { seen.add(answer); }

  private void sheet(int s) {
    int form = formOf(s);
    see(form);
    for (int i = 0; form < 3 && i < 60; i++) see(x.get(s, form, i));
    see(x.lose(s));
  }

  /** The FORM of a SHEET; 3, if it is LOST. */
  private int formOf(int s) {
    for (int form = 0; form < 3; form++) {
      // A SIZE ahead, so that an older NULL or CAST is not taken for this one's.
      x.sheet(0, 0, -1);
      x.get(s, form, 0);
      if (x.count(8) != 1 && x.count(8) != 3) return form;
    }
    return 3;
  }

  private void told() {
    int n = x.things(8);
    for (int left = x.count(7); left >= 0; left--) {
      see(x.fault());
      see(x.misses());
      see(x.number());
      see(x.undo());
    }
    x.things(n);
  }

  private void groups() {
    for (int n = 1; n <= 8; n++) {
      see(x.things(n));
      see(x.digest());
    }
    for (int left = x.count(1); left >= 0; left--) {
      see(x.back());
      see(x.digest());
    }
  }
}

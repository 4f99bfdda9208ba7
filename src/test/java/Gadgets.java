/** Boxes in which a rule by tips tells. */
final class Gadgets {
  private Gadgets() {}

  /**
   * Ball 0 first if there were no tips, else ball 1. Up, then with ball 0 first right and left bring both
   * home, with ball 1 first left and right do; the other way about one is lost.
   */
  static BallBox turns() {
    return told("row 1..2;row #..#;ball 1 1;ball 2 1", "first ball if tips=0;first 1-ball");
  }

  /**
   * Ball 1 first if there were no tips: then ball 0 is lost behind it, and they never are home; else ball 0:
   * down, right, up and right bring them home.
   */
  static BallBox never() {
    return told("row ..1;row ..2;ball 0 0;ball 1 0", "first 1-ball if tips=0;first ball");
  }

  static BallBox told(String box, String rule) {
    BallBox x = Texts.boxed(box);
    if (Texts.rule(x, rule) != 0) {
      throw new IllegalStateException("not a rule: " + rule);
    }
    x.force(0);
    return x;
  }
}

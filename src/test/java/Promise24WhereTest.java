/** Promise 24: where. */
public final class Promise24WhereTest {
  private static final String SIX = "row ......;row ......;row ......;row ......;row ......;row ......;";

  public static void main(String[] args) {
    Check.run(Promise24WhereTest.class);
  }

  static void promise24EachCellIsItsBit() {
    for (int i = 0; i < 36; i++) {
      StringBuilder text = new StringBuilder();
      for (int k = 0; k < 36; k++) {
        text.append(k % 6 > 0 ? "" : k > 0 ? ";row " : "row ").append(k == i ? '.' : '#');
      }
      BallBox x = Texts.boxed(text + ";ball " + i % 6 + " " + i / 6);
      Check.due("cell " + i, 1L << i, x.where(0));
    }
  }

  static void promise24AllCells() {
    BallBox x = Texts.boxed(SIX + "ball 0 0;ball 1 0;ball 2 0");
    for (int ball = 0; ball <= 2; ball++) {
      Check.due("ball " + ball, (1L << 36) - 1, x.where(ball));
    }
  }

  static void promise24HolesAndWallsAreNone() {
    BallBox x = Texts.boxed("row .#1;row 2.3;ball 0 0");
    Check.due("where", 1L | 1L << 7, x.where(0));
  }

  static void promise24ByWhatWasHeard() {
    BallBox x = Texts.boxed("row ...;row ..1;ball 0 0;ball 1 0");
    x.sound(1, 0, 1);
    // One below, which falls, and one above at the right.
    Check.due("ball 0", 1L << 2 | 3L << 6, x.where(0));
    Check.due("ball 1", 1L << 2 | 3L << 6, x.where(1));
  }

  static void promise24EachBallByItself() {
    // With ball 0 first they began at 0 and 2, or at 2 and 1.
    BallBox x = Gadgets.told("row ...;ball 0 0;ball 1 0", "first ball");
    x.sound(3, 1, 0);
    x.sound(1, 1, 0);
    Check.due("ball 0: at the left, or at the right", 5, x.where(0));
    Check.due("ball 1: at the right, or between", 6, x.where(1));
  }

  static void promise24NothingFits() {
    BallBox x = Texts.boxed("row ..;ball 0 0");
    x.sound(0, 1, 0);
    Check.due("where", 0, x.where(0));
  }

  static void promise24LastBallAndFirstThatIsNot() {
    BallBox x = Texts.boxed("row ..;ball 0 0;ball 1 0");
    Check.due("ball 1", 3, x.where(1));
    Check.due("ball 2", -1, x.where(2));
    Check.due("ball -1", -1, x.where(-1));
    Check.due("ball 0 of none", -1, Texts.boxed("row .").where(0));
    Bases.leaves("where(3)", Bases::rich, -1, y -> y.where(3));
    Bases.leaves("where(-1)", Bases::rich, -1, y -> y.where(-1));
    Bases.leaves("where of the greatest number", Bases::rich, -1, y -> y.where(Integer.MAX_VALUE));
    Bases.leaves("where of the least number", Bases::rich, -1, y -> y.where(Integer.MIN_VALUE));
  }

  static void promise24OneThatFell() {
    BallBox x = Texts.boxed("row ..1;ball 0 0");
    x.tip(1);
    Check.due("where", 3, x.where(0));
  }

  static void promise24WithoutAnyBeginning() {
    BallBox x = Texts.boxed("row .1;ball 0 0");
    x.tip(1);
    x.wall(0, 0, true);
    Check.due("where", 0, x.where(0));
  }

  static void promise24WithoutABox() {
    Bases.leaves("where(0)", Bases::bare, -1, x -> x.where(0));
    Bases.leaves("where(0)", Bases::fresh, -1, x -> x.where(0));
  }

  static void promise24NothingChanges() {
    for (int ball = 0; ball <= 2; ball++) {
      int asked = ball;
      Bases.leaves("where(" + ball + ")", Bases::rich, Bases.rich().where(ball), x -> x.where(asked));
    }
  }

  static void promise24TipsForARuleDoNotGrow() {
    BallBox x = Gadgets.told("row ...;ball 0 0;ball 1 0", "first ball if tips=0;first 1-ball");
    x.sound(3, 1, 0);
    x.sound(1, 1, 0);
    Check.due("where(0)", 5, x.where(0));
  }

  static void promise24TipsForARuleAreThoseThereWere() {
    BallBox x = Gadgets.told("row 1...;ball 2 0;ball 3 0", "first 1-ball if tips=0;first ball");
    x.sound(1, 1, 0);
    Check.due("where(0)", 14, x.where(0));
    x.tip(0);
    Check.due("where(0) behind a tip", 10, x.where(0));
  }
}

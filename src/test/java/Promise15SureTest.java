/** Promise 15: sure. */
public final class Promise15SureTest {
  // Right brings ball 1 home, left brings ball 0 home, in any order.
  private static final String CORNERS = "row 1..;row .#.;row ..2;ball 2 0;ball 0 2";

  public static void main(String[] args) {
    Check.run(Promise15SureTest.class);
  }

  private static BallBox pressed(int... ways) {
    BallBox x = Texts.boxed(CORNERS);
    for (int way : ways) {
      x.press(way);
    }
    return x;
  }

  private static void sure(BallBox x, int p, long above, long below) {
    Check.due("above, p " + p, above, x.sure(p, 0));
    Check.due("below, p " + p, below, x.sure(p, 1));
  }

  static void promise15NoneFails() {
    sure(pressed(1, 3), 0, 1, 1);
    sure(pressed(1, 1), 0, 0, 1);
  }

  static void promise15AllFail() {
    sure(pressed(1, 3), 100, 0, 1);
  }

  static void promise15AllFailButAllAreHome() {
    BallBox x = pressed(1, 3);
    x.tip(1);
    x.tip(3);
    sure(x, 100, 1, 1);
    sure(x, 0, 1, 1);
    sure(x, 37, 1, 1);
  }

  static void promise15InLowestTerms() {
    sure(pressed(1, 3), 50, 1, 4);
    sure(pressed(1, 3), 20, 16, 25);
    sure(pressed(1, 3), 99, 1, 10000);
    sure(pressed(1, 3), 1, 9801, 10000);
    sure(pressed(1, 3, 1), 50, 3, 8);
    sure(pressed(1, 3, 1), 30, 637, 1000);
  }

  static void promise15NeverIsZeroByOne() {
    sure(pressed(0, 2), 50, 0, 1);
    sure(pressed(1), 50, 0, 1);
  }

  static void promise15EmptyRow() {
    sure(pressed(), 50, 0, 1);
    BallBox x = pressed();
    x.tip(1);
    x.tip(3);
    sure(x, 50, 1, 1);
    sure(Texts.boxed("row ."), 50, 1, 1);
  }

  /** Each of both ways four times: (1 - p^4)^2. */
  static void promise15FullRow() {
    BallBox x = pressed(1, 3, 1, 3, 1, 3, 1, 3);
    sure(x, 1, 99999999L * 99999999L, 10000000000000000L);
    sure(x, 50, 225, 256);
    sure(x, 99, 3940399L * 3940399L, 10000000000000000L);
  }

  static void promise15AFailedTipRollsNothing() {
    // Right, left, down: it is home only if left fails, and the others don't.
    BallBox x = Texts.boxed("row ..;row #1;ball 0 0");
    x.press(1);
    x.press(3);
    x.press(2);
    sure(x, 0, 0, 1);
    sure(x, 50, 1, 8);
    sure(x, 10, 81, 1000);
  }

  static void promise15WhoIsLostStaysLost() {
    // Left, then right: it is lost at the right if left fails alone.
    BallBox x = Texts.boxed("row 1.2;ball 1 0");
    x.press(3);
    x.press(1);
    sure(x, 0, 1, 1);
    sure(x, 25, 3, 4);
  }

  static void promise15OtherPs() {
    Check.due("p 0", 1, pressed(1, 3).sure(0, 0));
    Check.due("p 100", 0, pressed(1, 3).sure(100, 0));
    int[] others = {-1, 101, Integer.MAX_VALUE, Integer.MIN_VALUE};
    for (int p : others) {
      Bases.leaves("sure(" + p + ", 0)", Bases::rich, -1, x -> x.sure(p, 0));
      Bases.leaves("sure(" + p + ", 1)", Bases::rich, -1, x -> x.sure(p, 1));
    }
  }

  static void promise15OtherParts() {
    int[] others = {-1, 2, Integer.MAX_VALUE, Integer.MIN_VALUE};
    for (int part : others) {
      Bases.leaves("sure(50, " + part + ")", Bases::rich, -1, x -> x.sure(50, part));
    }
  }

  static void promise15WithoutABox() {
    Bases.leaves("sure(50, 0)", Bases::bare, -1, x -> x.sure(50, 0));
    Bases.leaves("sure(50, 1)", Bases::bare, -1, x -> x.sure(50, 1));
  }

  static void promise15NothingChanges() {
    Bases.leaves("sure(50, 0)", Bases::rich, 1, x -> x.sure(50, 0));
    Bases.leaves("sure(50, 1)", Bases::rich, 4, x -> x.sure(50, 1));
  }

  static void promise15TipsForARuleDoNotGrow() {
    BallBox x = Gadgets.turns();
    x.press(0);
    x.press(1);
    x.press(3);
    sure(x, 0, 1, 1);
    sure(x, 50, 1, 8);
  }

  static void promise15TipsForARuleAreThoseThereWere() {
    BallBox x = Gadgets.turns();
    x.tip(2);
    x.press(0);
    x.press(1);
    x.press(3);
    sure(x, 0, 0, 1);
    x.press(-1);
    x.press(0);
    x.press(3);
    x.press(1);
    sure(x, 0, 1, 1);
  }
}

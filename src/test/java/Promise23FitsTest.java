/** Promise 23: fits. */
public final class Promise23FitsTest {
  private static final String BOX = "row ...;row ..1;ball 0 0;ball 1 0";

  public static void main(String[] args) {
    Check.run(Promise23FitsTest.class);
  }

  private static void fits(BallBox x, int many, int first, int second, int third) {
    Check.due("how many", many, x.fits(0));
    Check.due("ball 0 in the first", first, x.fits(1));
    Check.due("ball 1 in the first", second, x.fits(2));
    Check.due("ball 2 in the first", third, x.fits(3));
  }

  static void promise23WithoutSoundsAllFit() {
    fits(Texts.boxed(BOX), 20, 0, 1, -2);
    fits(Texts.boxed("row ...;row ..1;ball 0 0"), 5, 0, -2, -2);
    fits(Texts.boxed("row #..;row .#1;ball 1 0;ball 2 0;ball 0 1"), 6, 1, 2, 6);
  }

  static void promise23WithoutBallsOneFits() {
    fits(Texts.boxed("row .1"), 1, -2, -2, -2);
    fits(Texts.boxed("row #"), 1, -2, -2, -2);
    BallBox x = Texts.boxed("row .");
    x.sound(0, 0, 0);
    fits(x, 1, -2, -2, -2);
    x.sound(0, 1, 0);
    fits(x, 0, -2, -2, -2);
  }

  static void promise23JustTheseHitsAndFalls() {
    BallBox x = Texts.boxed(BOX);
    // To the right, both fall: both in the lower row, in either order.
    x.sound(1, 0, 2);
    fits(x, 2, 6, 7, -2);
    x.sound(-1, 0, 0);
    x.sound(1, 1, 1);
    // One below, one above that rolls.
    fits(x, 8, 0, 6, -2);
    x.sound(-1, 0, 0);
    x.sound(1, 0, 1);
    // One below, one above at the right.
    fits(x, 4, 2, 6, -2);
  }

  static void promise23OneSoundBehindTheOther() {
    BallBox x = Texts.boxed(BOX);
    x.sound(1, 0, 2);
    x.sound(2, 0, 0);
    fits(x, 2, 6, 7, -2);
    x.sound(2, 1, 0);
    fits(x, 0, -2, -2, -2);
  }

  static void promise23TheWayOfASoundTells() {
    BallBox up = Texts.boxed("row .;row .;ball 0 0");
    up.sound(0, 1, 0);
    fits(up, 1, 6, -2, -2);
    BallBox right = Texts.boxed("row ..;ball 0 0");
    right.sound(1, 1, 0);
    fits(right, 1, 0, -2, -2);
    BallBox down = Texts.boxed("row .;row .;ball 0 0");
    down.sound(2, 1, 0);
    fits(down, 1, 0, -2, -2);
    BallBox left = Texts.boxed("row ..;ball 0 0");
    left.sound(3, 1, 0);
    fits(left, 1, 1, -2, -2);
  }

  static void promise23EightSounds() {
    for (int last = 0; last <= 1; last++) {
      BallBox x = Texts.boxed("row ...;ball 0 0");
      for (int i = 0; i < 7; i++) {
        x.sound(i % 2 == 0 ? 1 : 3, 1, 0);
      }
      Check.due("the eighth", 8, x.sound(3, last, 0));
      if (last == 1) {
        fits(x, 2, 0, -2, -2);
      } else {
        fits(x, 0, -2, -2, -2);
      }
    }
  }

  static void promise23ThreeHitsAndThreeFalls() {
    String three = "row ..;row ..;row ..;ball 0 0;ball 0 1;ball 0 2";
    BallBox x = Texts.boxed(three);
    x.sound(1, 3, 0);
    fits(x, 6, 0, 6, 12);
    BallBox y = Texts.boxed("row .1;row .2;row .3;ball 0 0;ball 0 1;ball 0 2");
    y.sound(1, 0, 3);
    fits(y, 6, 0, 6, 12);
    BallBox z = Texts.boxed("row .1;row ..;row .3;ball 0 0;ball 0 1;ball 0 2");
    z.sound(1, 1, 2);
    fits(z, 6, 0, 6, 12);
  }

  /** Three of five cells; to the right the one above falls, those at the left hit if there is room. */
  static void promise23NoHitsAndFallsStandForOthers() {
    int[][] many = {{12, 18, 0, 0}, {12, 12, 0}, {0, 6}, {0}};
    for (int hits = 0; hits <= 3; hits++) {
      for (int falls = 0; falls <= 3 - hits; falls++) {
        BallBox x = Texts.boxed("row .1;row ..;row ..;ball 0 0;ball 0 1;ball 0 2");
        x.sound(1, hits, falls);
        Check.due(hits + " hits and " + falls + " falls", many[hits][falls], x.fits(0));
      }
    }
  }

  static void promise23TheFirstByTheFirstBallsCell() {
    BallBox x = Texts.boxed("row ...;ball 2 0;ball 1 0;ball 0 0");
    fits(x, 6, 0, 1, 2);
    // Nothing rolls to the left: 0 and 1, in either order.
    BallBox y = Texts.boxed("row ...;ball 2 0;ball 1 0");
    y.sound(3, 0, 0);
    fits(y, 2, 0, 1, -2);
  }

  static void promise23WhoFellIsLaidAnew() {
    BallBox x = Texts.boxed("row ..1;ball 0 0");
    x.tip(1);
    fits(x, 2, 0, -2, -2);
  }

  static void promise23WhereTheyLieDoesNotMatter() {
    BallBox x = Texts.boxed(BOX);
    x.put(0, 1, 1);
    fits(x, 20, 0, 1, -2);
  }

  static void promise23TheGreatestBox() {
    BallBox x = Texts.boxed("row ......;row ......;row ......;row ......;row ......;row ......;ball 0 0;ball 1 0;ball 2 0");
    fits(x, 36 * 35 * 34, 0, 1, 2);
    x.sound(0, 0, 0);
    x.sound(3, 0, 0);
    // Close in the corner above at the left: in a row, in a column, or round the corner, each in six orders.
    fits(x, 18, 0, 1, 2);
  }

  static void promise23LastCell() {
    BallBox x = Texts.boxed("row ######;row ######;row ######;row ######;row ######;row 1####.;ball 5 5");
    fits(x, 1, 35, -2, -2);
  }

  static void promise23WithoutAnyBeginning() {
    BallBox x = Texts.boxed("row .1;ball 0 0");
    x.tip(1);
    x.wall(0, 0, true);
    fits(x, 0, -2, -2, -2);
  }

  static void promise23OtherWhats() {
    int[] others = {-1, 4, Integer.MAX_VALUE, Integer.MIN_VALUE};
    for (int what : others) {
      Bases.leaves("fits(" + what + ")", Bases::rich, -1, x -> x.fits(what));
    }
  }

  static void promise23WithoutABox() {
    for (int what = 0; what <= 3; what++) {
      int asked = what;
      Bases.leaves("fits(" + what + ")", Bases::bare, -1, x -> x.fits(asked));
    }
  }

  static void promise23NothingChanges() {
    for (int what = 0; what <= 3; what++) {
      int asked = what;
      Bases.leaves("fits(" + what + ")", Bases::rich, Bases.rich().fits(what), x -> x.fits(asked));
    }
  }

  /** By ball 0 first always, left with one hit and right with one. */
  static void promise23TipsForARuleDoNotGrow() {
    BallBox x = Gadgets.told("row ...;ball 0 0;ball 1 0", "first ball if tips=0;first 1-ball");
    x.sound(3, 1, 0);
    x.sound(1, 1, 0);
    fits(x, 2, 0, 2, -2);
  }

  static void promise23TipsForARuleAreThoseThereWere() {
    BallBox x = Gadgets.told("row 1...;ball 2 0;ball 3 0", "first 1-ball if tips=0;first ball");
    x.sound(1, 1, 0);
    fits(x, 3, 1, 3, -2);
    x.tip(0);
    fits(x, 3, 1, 2, -2);
  }
}

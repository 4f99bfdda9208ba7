/** Promise 20: walled. */
public final class Promise20WalledTest {
  public static void main(String[] args) {
    Check.run(Promise20WalledTest.class);
  }

  private static void walled(BallBox x, int column, int row, int fewest) {
    Check.due("x", column, x.walled(0));
    Check.due("y", row, x.walled(1));
    Check.due("fewest then", fewest, x.walled(2));
  }

  private static void none(BallBox x) {
    walled(x, -2, -2, -2);
  }

  static void promise20TheGreatest() {
    BallBox x = Texts.boxed("row 2...;row .1..;row ....;ball 2 0;ball 1 2");
    Check.due("fewest", 3, x.fewest());
    walled(x, 0, 1, 6);
    walled(Texts.boxed("row ..1;row ...;ball 0 0"), 1, 0, 3);
  }

  static void promise20OfSeveralTheFirstByRowsFromAbove() {
    walled(Texts.boxed("row ..1.;ball 1 0"), 0, 0, 1);
    walled(Texts.boxed("row #..;row .#.;row .1.;ball 0 2"), 1, 0, 1);
    walled(Texts.boxed("row .1#;row ..#;ball 0 0"), 0, 1, 1);
  }

  static void promise20IfItIsNeverNow() {
    BallBox x = Texts.boxed("row ...;row #1#;ball 0 0");
    Check.due("fewest now: it rolls past the hole's column", -2, x.fewest());
    walled(x, 2, 0, 2);
  }

  static void promise20NeverOnesAreNotAsked() {
    none(Texts.boxed("row ..1;ball 0 0"));
    walled(Texts.boxed("row ..1.;ball 0 0"), 3, 0, 1);
  }

  static void promise20UnknownOnesAreNotAsked() {
    none(Gadgets.told("row .#....;row .....#;row ..##..;row #...#.;row .#...#;row ...#..;ball 1 5;ball 0 5;ball 1 2", "first ahead"));
  }

  static void promise20NotWhereABallLies() {
    none(Texts.boxed("row .1;ball 0 0"));
    BallBox x = Texts.boxed("row .1;row .2;ball 0 0;ball 0 1");
    none(x);
  }

  static void promise20WhereABallLayThatFell() {
    BallBox x = Texts.boxed("row .1;ball 0 0");
    x.tip(1);
    walled(x, 0, 0, 0);
  }

  static void promise20NotOnAHoleOrAWall() {
    BallBox x = Texts.boxed("row 1.;row ##;ball 1 0");
    none(x);
    BallBox y = Texts.boxed("row 123#");
    none(y);
  }

  static void promise20AllAreHome() {
    BallBox x = Texts.boxed("row #.1;ball 1 0");
    x.tip(1);
    walled(x, 1, 0, 0);
  }

  static void promise20WithoutBalls() {
    walled(Texts.boxed("row #.."), 1, 0, 0);
    none(Texts.boxed("row #1"));
  }

  static void promise20InTheFirstAndTheLastCell() {
    walled(Texts.boxed("row .#;row 1.;ball 1 1"), 0, 0, 1);
    walled(Texts.boxed("row ######;row ######;row ######;row ######;row ######;row 1.###.;ball 1 5"), 5, 5, 1);
  }

  static void promise20OneIsLost() {
    BallBox x = Texts.boxed("row .2.1;ball 0 0");
    x.tip(1);
    none(x);
  }

  static void promise20OtherWhats() {
    int[] others = {-1, 3, Integer.MAX_VALUE, Integer.MIN_VALUE};
    for (int what : others) {
      Bases.leaves("walled(" + what + ")", Bases::rich, -1, x -> x.walled(what));
    }
  }

  static void promise20WithoutABox() {
    for (int what = 0; what <= 2; what++) {
      int asked = what;
      Bases.leaves("walled(" + what + ")", Bases::bare, -1, x -> x.walled(asked));
    }
  }

  static void promise20NothingChanges() {
    Bases.leaves("walled(0)", Bases::rich, 1, x -> x.walled(0));
    Bases.leaves("walled(1)", Bases::rich, 0, x -> x.walled(1));
    Bases.leaves("walled(2)", Bases::rich, 2, x -> x.walled(2));
  }

  static void promise20TipsForARuleDoNotGrow() {
    walled(Gadgets.told("row ...;row ...;row .12;ball 1 0;ball 1 1", "first ball if tips=0;first 1-ball"), 0, 1, 5);
  }

  static void promise20TipsForARuleAreThoseThereWere() {
    BallBox x = Gadgets.told("row ...;row ...;row .12;ball 1 0;ball 1 1", "first ball if tips=0;first 1-ball");
    Check.due("a tip by which nothing rolls", 0, x.tip(0));
    walled(x, 0, 0, 5);
  }
}

/** Promise 19: chipped. */
public final class Promise19ChippedTest {
  public static void main(String[] args) {
    Check.run(Promise19ChippedTest.class);
  }

  private static void chipped(BallBox x, int column, int row, int fewest) {
    Check.due("x", column, x.chipped(0));
    Check.due("y", row, x.chipped(1));
    Check.due("fewest then", fewest, x.chipped(2));
  }

  private static void none(BallBox x) {
    chipped(x, -2, -2, -2);
  }

  static void promise19TheOnlyOneThatHelps() {
    chipped(Texts.boxed("row #1#.#;ball 3 0"), 2, 0, 1);
    chipped(Texts.boxed("row 1#;row .#;row .#;row 2.;ball 0 2;ball 0 1"), 1, 1, 4);
  }

  static void promise19TheLeast() {
    // Without the wall above the hole it takes three tips, without the one at its left one.
    chipped(Texts.boxed("row ...;row .##;row .#1;ball 0 2"), 1, 2, 1);
  }

  static void promise19OfSeveralTheFirstByRowsFromAbove() {
    chipped(Texts.boxed("row ..#;row #..;row .1.;ball 0 2"), 2, 0, 1);
    chipped(Texts.boxed("row ###;row .1.;ball 0 1"), 0, 0, 1);
    chipped(Texts.boxed("row .1.;row .##;ball 0 0"), 1, 1, 1);
  }

  static void promise19InTheLastCell() {
    chipped(Texts.boxed("row ......;row ......;row ......;row ......;row #####.;row 1....#;ball 5 4"), 5, 5, 2);
  }

  static void promise19InTheFirstCell() {
    chipped(Texts.boxed("row #.;row 1#;ball 1 0"), 0, 0, 2);
  }

  static void promise19AllAreHome() {
    BallBox x = Texts.boxed("row ##.1;ball 2 0");
    chipped(x, 0, 0, 1);
    x.tip(1);
    chipped(x, 0, 0, 0);
  }

  static void promise19WithoutBalls() {
    chipped(Texts.boxed("row .#"), 1, 0, 0);
    none(Texts.boxed("row .."));
  }

  static void promise19WithoutWalls() {
    none(Texts.boxed("row .1;ball 0 0"));
  }

  static void promise19NoWallMakesItSo() {
    none(Texts.boxed("row .##1;ball 0 0"));
    none(Texts.boxed("row .#;ball 0 0"));
  }

  static void promise19OneIsLost() {
    BallBox x = Texts.boxed("row .2#1;ball 0 0");
    x.tip(1);
    none(x);
  }

  static void promise19UnknownOnesAreNone() {
    none(Gadgets.told("row .#....;row .....#;row ..##..;row #...#.;row .#...#;row ...#..;ball 1 5;ball 0 5;ball 1 2", "first ahead"));
  }

  static void promise19MoreThanNowIsTakenAllTheSame() {
    BallBox x = Texts.boxed("row ..#;row 2..;row .1.;ball 0 0");
    Check.due("fewest now: right, down", 2, x.fewest());
    chipped(x, 2, 0, 3);
  }

  static void promise19NeverOnesAreNotTaken() {
    // Without the first wall it rolls past the hole's column for ever.
    chipped(Texts.boxed("row ..#;row #1#;ball 0 0"), 0, 1, 2);
  }

  static void promise19OtherWhats() {
    int[] others = {-1, 3, Integer.MAX_VALUE, Integer.MIN_VALUE};
    for (int what : others) {
      Bases.leaves("chipped(" + what + ")", Bases::rich, -1, x -> x.chipped(what));
    }
  }

  static void promise19WithoutABox() {
    for (int what = 0; what <= 2; what++) {
      int asked = what;
      Bases.leaves("chipped(" + what + ")", Bases::bare, -1, x -> x.chipped(asked));
    }
  }

  static void promise19NothingChanges() {
    Bases.leaves("chipped(0)", Bases::rich, 1, x -> x.chipped(0));
    Bases.leaves("chipped(1)", Bases::rich, 1, x -> x.chipped(1));
    Bases.leaves("chipped(2)", Bases::rich, 2, x -> x.chipped(2));
  }

  static void promise19TipsForARuleDoNotGrow() {
    chipped(Gadgets.told("row .1.;row #..;row ..2;ball 0 2;ball 1 1", "first ball if tips=0;first 1-ball"), 0, 1, 4);
  }

  static void promise19TipsForARuleAreThoseThereWere() {
    BallBox x = Gadgets.told("row .1.;row #..;row ..2;ball 0 2;ball 1 1", "first ball if tips=0;first 1-ball");
    Check.due("a tip by which nothing rolls", 0, x.tip(3));
    none(x);
  }
}

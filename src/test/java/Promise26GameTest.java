/** Promise 26: game. */
public final class Promise26GameTest {
  public static void main(String[] args) {
    Check.run(Promise26GameTest.class);
  }

  private static void game(BallBox x, int n, int can, int way) {
    Check.due("whether, n " + n, can, x.game(n, 0));
    Check.due("its way, n " + n, way, x.game(n, 1));
  }

  static void promise26NoTips() {
    game(Texts.boxed("row .1;ball 0 0"), 0, 0, -2);
  }

  static void promise26AllAreHomeNow() {
    BallBox x = Texts.boxed("row .1;ball 0 0");
    x.tip(1);
    for (int n = 0; n <= 8; n++) {
      game(x, n, 1, -1);
    }
    game(Texts.boxed("row ."), 0, 1, -1);
  }

  static void promise26OneTip() {
    game(Texts.boxed("row 1;row .;ball 0 1"), 1, 1, 0);
    game(Texts.boxed("row .1;ball 0 0"), 1, 1, 1);
    game(Texts.boxed("row .;row 1;ball 0 0"), 1, 1, 2);
    game(Texts.boxed("row 1.;ball 1 0"), 1, 1, 3);
  }

  static void promise26OneTipLessThanNeeded() {
    // Right, whatever the other one does, left.
    BallBox x = Texts.boxed("row .12.;ball 0 0;ball 3 0");
    game(x, 0, 0, -2);
    game(x, 1, 0, -2);
    game(x, 2, 0, -2);
    game(x, 3, 1, 1);
    game(x, 4, 1, 1);
  }

  /** With five tips the first can do nothing at first, which is the lesser way. */
  static void promise26TheLeastWay() {
    BallBox x = Texts.boxed("row .12.;ball 0 0;ball 3 0");
    for (int n = 5; n <= 8; n++) {
      game(x, n, 1, 0);
    }
  }

  static void promise26TheOtherOneDoesNotWantIt() {
    // Right, then the other one tips left again and again.
    game(Texts.boxed("row ..;row #1;ball 0 0"), 8, 0, -2);
  }

  static void promise26OneTipsThenTheOtherOne() {
    // Down does it: with two tips the second is the other one's, who does not; with three it can wait.
    BallBox x = Texts.boxed("row #.#;row #.#;row #1#;ball 1 0");
    game(x, 1, 1, 2);
    game(x, 2, 1, 2);
    game(x, 3, 1, 0);
    game(x, 4, 1, 0);
  }

  static void promise26ThreeTipsOfTheFirst() {
    // Down, left and up bring one ball home each; the other one can't undo it.
    BallBox x = Texts.boxed("row 1..;row 2#.;row .#3;ball 1 0;ball 0 2;ball 2 0");
    Check.due("fewest", 3, x.fewest());
    game(x, 3, 0, -2);
    game(x, 4, 0, -2);
    game(x, 5, 1, 2);
    game(x, 6, 1, 2);
  }

  static void promise26EightTips() {
    BallBox x = Texts.boxed("row .12.;ball 0 0;ball 3 0");
    Check.due("n 8", 1, x.game(8, 0));
    Check.due("n 9", -1, x.game(9, 0));
  }

  static void promise26OneIsLost() {
    BallBox x = Texts.boxed("row .2.1;ball 0 0");
    x.tip(1);
    game(x, 8, 0, -2);
  }

  static void promise26LostOnTheWay() {
    // Up does it at once; and in the other box up and right would, but the other one tips down between.
    game(Texts.boxed("row #1#;row 2.#;row #3#;ball 1 1"), 8, 1, 0);
    game(Texts.boxed("row .1;row .2;ball 0 1"), 8, 0, -2);
  }

  static void promise26WithoutAHole() {
    game(Texts.boxed("row ..;ball 0 0"), 8, 0, -2);
    game(Texts.boxed("row .1;row ..;ball 0 0;ball 0 1"), 8, 0, -2);
  }

  static void promise26OtherNs() {
    int[] others = {-1, 9, Integer.MAX_VALUE, Integer.MIN_VALUE};
    for (int n : others) {
      Bases.leaves("game(" + n + ", 0)", Bases::rich, -1, x -> x.game(n, 0));
      Bases.leaves("game(" + n + ", 1)", Bases::rich, -1, x -> x.game(n, 1));
    }
  }

  static void promise26OtherWhats() {
    int[] others = {-1, 2, Integer.MAX_VALUE, Integer.MIN_VALUE};
    for (int what : others) {
      Bases.leaves("game(3, " + what + ")", Bases::rich, -1, x -> x.game(3, what));
    }
  }

  static void promise26WithoutABox() {
    Bases.leaves("game(3, 0)", Bases::bare, -1, x -> x.game(3, 0));
    Bases.leaves("game(0, 1)", Bases::fresh, -1, x -> x.game(0, 1));
  }

  static void promise26NothingChanges() {
    Bases.leaves("game(8, 0)", Bases::rich, Bases.rich().game(8, 0), x -> x.game(8, 0));
    Bases.leaves("game(8, 1)", Bases::rich, Bases.rich().game(8, 1), x -> x.game(8, 1));
  }

  static void promise26TipsForARuleDoNotGrow() {
    game(Gadgets.told("row 2#..;row ...1;ball 2 1;ball 1 1", "first 1-ball if tips=0;first ball"), 5, 1, 3);
  }

  static void promise26TipsForARuleAreThoseThereWere() {
    BallBox x = Gadgets.told("row 1#..;row ...2;ball 1 1;ball 2 1", "first 1-ball if tips=0;first ball");
    game(x, 5, 0, -2);
    Check.due("a tip by which nothing rolls", 0, x.tip(2));
    game(x, 5, 1, 3);
  }
}

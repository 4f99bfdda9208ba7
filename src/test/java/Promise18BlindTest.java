/** Promise 18: blind. */
public final class Promise18BlindTest {
  private static final String ONE = "row ..1;row ...;ball 0 0";
  // By ball 1 first always, six tips bring both home from wherever they begin; without a rule none do.
  private static final String TWO = "row 2##;row ...;row #1#;ball 0 1;ball 1 1";
  private static final int[] SIX = {3, 1, 2, 3, 0, 2};

  public static void main(String[] args) {
    Check.run(Promise18BlindTest.class);
  }

  private static void blind(BallBox x, int n, int... ways) {
    Check.due("how many, n " + n, ways.length, x.blind(n, 0));
    for (int k = 1; k <= 6; k++) {
      Check.due("way " + k + ", n " + n, k <= ways.length ? ways[k - 1] : -2, x.blind(n, k));
    }
  }

  private static void none(BallBox x, int n) {
    for (int what = 0; what <= 6; what++) {
      Check.due("none, n " + n + ", what " + what, -2, x.blind(n, what));
    }
  }

  static void promise18TheShortestRow() {
    BallBox x = Texts.boxed(ONE);
    for (int n = 2; n <= 6; n++) {
      blind(x, n, 0, 1);
    }
  }

  static void promise18OfSeveralTheFirst() {
    blind(Texts.boxed(ONE), 2, 0, 1);
    blind(Texts.boxed("row ...;row ..1;ball 0 0"), 2, 1, 2);
    blind(Texts.boxed("row ...;row 1..;ball 0 0"), 2, 2, 3);
    blind(Texts.boxed("row 1..;row ...;ball 1 0"), 2, 0, 3);
    blind(Texts.boxed("row .1.;row ###;ball 0 0"), 2, 1, 3);
  }

  static void promise18OneTipLessThanNeeded() {
    none(Texts.boxed(ONE), 1);
    none(Texts.boxed(ONE), 0);
    BallBox x = Gadgets.told(TWO, "first 1-ball");
    none(x, 5);
  }

  static void promise18LessBehindMore() {
    BallBox x = Texts.boxed(ONE);
    blind(x, 6, 0, 1);
    none(x, 1);
    none(x, 0);
    blind(x, 2, 0, 1);
  }

  static void promise18SixTips() {
    BallBox x = Gadgets.told(TWO, "first 1-ball");
    blind(x, 6, SIX);
  }

  static void promise18SixTipsDoIt() {
    for (int i = 0; i < 6; i++) {
      int first = i / 2;
      int second = (first + 1 + i % 2) % 3;
      BallBox x = Gadgets.told("row 2##;row ...;row #1#;ball " + first + " 1;ball " + second + " 1", "first 1-ball");
      for (int way : SIX) {
        x.tip(way);
      }
      Check.due("home from " + first + " and " + second, 2, x.count(3));
    }
  }

  static void promise18NoneAtAll() {
    none(Texts.boxed(TWO), 6);
    none(Texts.boxed("row .#1;ball 0 0"), 6);
    none(Texts.boxed("row ..;ball 0 0"), 6);
  }

  static void promise18MoreThanSixTips() {
    // Into a snail: seven tips from its outer end, six if the hole is a cell nearer.
    BallBox x = Texts.boxed("row ......;row #####.;row ....#.;row .#1.#.;row .####.;row ......;ball 0 0");
    Check.due("fewest from its outer end", 7, x.fewest());
    none(x, 6);
    blind(Texts.boxed("row ......;row #####.;row ....#.;row .##1#.;row .####.;row ......;ball 0 0"), 6, 1, 2, 3, 0, 1, 2);
  }

  static void promise18NoTips() {
    blind(Texts.boxed("row ."), 0);
    blind(Texts.boxed("row .1"), 6);
    blind(Texts.boxed("row #"), 0);
    none(Texts.boxed("row .1;ball 0 0"), 0);
  }

  static void promise18OneTip() {
    blind(Texts.boxed("row 1.2;ball 1 0"), 1, 3);
    blind(Texts.boxed("row 1;row .;ball 0 1"), 1, 0);
  }

  static void promise18FromEachBeginning() {
    // Right brings it home from where it lies, but not from the cell behind the wall.
    BallBox x = Texts.boxed("row .1#.;ball 0 0");
    none(x, 6);
    x.wall(3, 0, true);
    blind(x, 6, 1);
  }

  static void promise18BeginningsLayWhoFell() {
    BallBox x = Texts.boxed("row ..1;ball 0 0");
    x.tip(1);
    none(x, 0);
    blind(x, 1, 1);
  }

  static void promise18WithoutAnyBeginning() {
    BallBox x = Texts.boxed("row .1;ball 0 0");
    x.tip(1);
    x.wall(0, 0, true);
    blind(x, 0);
    blind(x, 6);
  }

  static void promise18WhatWasReckonedIsReckonedAnew() {
    BallBox x = Texts.boxed("row ..1;ball 0 0");
    blind(x, 6, 1);
    Texts.box(x, "row #.1;ball 1 0");
    blind(x, 6, 1);
    Texts.box(x, "row 1..;ball 1 0");
    blind(x, 6, 3);
    x.wall(2, 0, true);
    blind(x, 6, 3);
    Texts.box(x, "row .#1;ball 0 0");
    none(x, 6);
    x.wall(1, 0, false);
    blind(x, 6, 1);
  }

  static void promise18TwoBallsAndThree() {
    Check.due("two", -2, Texts.boxed("row ...;ball 0 0;ball 1 0").blind(2, 0));
    Check.due("three", -1, Texts.boxed("row ...;ball 0 0;ball 1 0;ball 2 0").blind(2, 0));
    Bases.leaves("three", Bases::rich, -1, x -> x.blind(6, 0));
  }

  static void promise18OtherNs() {
    int[] others = {-1, 7, Integer.MAX_VALUE, Integer.MIN_VALUE};
    for (int n : others) {
      Bases.leaves("blind(" + n + ", 0)", Bases::pair, -1, x -> x.blind(n, 0));
    }
  }

  static void promise18OtherWhats() {
    int[] others = {-1, 7, Integer.MAX_VALUE, Integer.MIN_VALUE};
    for (int what : others) {
      Bases.leaves("blind(6, " + what + ")", Bases::pair, -1, x -> x.blind(6, what));
    }
  }

  static void promise18WithoutABox() {
    Bases.leaves("blind(6, 0)", Bases::bare, -1, x -> x.blind(6, 0));
    Bases.leaves("blind(0, 0)", Bases::fresh, -1, x -> x.blind(0, 0));
  }

  static void promise18NothingChanges() {
    Bases.leaves("blind(6, 0)", Bases::pair, 6, x -> x.blind(6, 0));
    Bases.leaves("blind(6, 6)", Bases::pair, 2, x -> x.blind(6, 6));
    Bases.leaves("blind(3, 0)", Bases::pair, -2, x -> x.blind(3, 0));
  }

  static void promise18TipsForARuleDoNotGrow() {
    blind(Gadgets.told(TWO, "first 1-ball if tips=0;first ball"), 6, SIX);
  }

  static void promise18TipsForARuleAreThoseThereWere() {
    BallBox x = Gadgets.told(TWO, "first ball if tips=0;first 1-ball");
    none(x, 5);
    x.put(1, 2, 1);
    x.tip(1);
    blind(x, 6, SIX);
  }
}

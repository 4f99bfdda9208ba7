/** Promise 21: hardest. */
public final class Promise21HardestTest {
  public static void main(String[] args) {
    Check.run(Promise21HardestTest.class);
  }

  private static void hardest(BallBox x, int fewest, int first, int second) {
    Check.due("fewest", fewest, x.hardest(0));
    Check.due("cell of ball 0", first, x.hardest(1));
    Check.due("cell of ball 1", second, x.hardest(2));
  }

  static void promise21OneBall() {
    hardest(Texts.boxed("row ..1;row ...;ball 0 0"), 2, 6, -2);
  }

  static void promise21TwoBalls() {
    hardest(Texts.boxed("row ..;row 1.;row 2.;ball 0 0;ball 1 1"), 6, 13, 0);
  }

  static void promise21WithoutBalls() {
    hardest(Texts.boxed("row ."), 0, -2, -2);
    hardest(Texts.boxed("row #"), 0, -2, -2);
  }

  static void promise21ThreeBalls() {
    BallBox x = Texts.boxed("row ...;ball 0 0;ball 1 0;ball 2 0");
    hardest(x, -1, -1, -1);
    Bases.leaves("three", Bases::rich, -1, y -> y.hardest(0));
  }

  static void promise21OfSeveralTheFirst() {
    hardest(Texts.boxed("row 1...;ball 3 0"), 1, 1, -2);
    // By the first ball's cell, then by the second one's.
    hardest(Texts.boxed("row 1..;row ###;row 2..;ball 2 2;ball 1 2"), 1, 1, 13);
  }

  static void promise21ByRowsFromAbove() {
    hardest(Texts.boxed("row 1.;row ..;ball 0 1"), 2, 7, -2);
    hardest(Texts.boxed("row .;row 1;row .;ball 0 0"), 1, 0, -2);
  }

  static void promise21NeverIsNotAsked() {
    hardest(Texts.boxed("row .#.1;ball 0 0"), 1, 2, -2);
    hardest(Texts.boxed("row .#.1;ball 2 0"), 1, 2, -2);
  }

  static void promise21NeverFromAnywhere() {
    hardest(Texts.boxed("row ..;ball 0 0"), -2, -2, -2);
    hardest(Texts.boxed("row .1;row #.;ball 0 0;ball 1 1"), -2, -2, -2);
  }

  static void promise21WhereTheyLieDoesNotMatter() {
    BallBox x = Texts.boxed("row ..1;row ...;ball 0 0");
    x.tip(1);
    hardest(x, 2, 6, -2);
    x.put(0, 1, 1);
    hardest(x, 2, 6, -2);
  }

  static void promise21WhoIsLostIsLaidAnew() {
    BallBox x = Texts.boxed("row 2.1;ball 1 0");
    x.tip(3);
    Check.due("lost", 1, x.count(4));
    hardest(x, 1, 1, -2);
  }

  static void promise21WithoutAnyBeginning() {
    BallBox x = Texts.boxed("row .1;ball 0 0");
    x.tip(1);
    x.wall(0, 0, true);
    hardest(x, -2, -2, -2);
  }

  static void promise21LastCellOfTheGreatestBox() {
    hardest(Texts.boxed("row ######;row ######;row ######;row ######;row ######;row ####1.;ball 5 5"), 1, 35, -2);
    hardest(Texts.boxed("row ######;row ######;row ######;row ######;row ####1.;row ####2.;ball 5 5;ball 5 4"), 1, 29, 35);
  }

  /** 34 cells and two balls: 1122 beginnings, held against the oracle while walls are put in. */
  static void promise21ManyBeginnings() {
    String text = "row ......;row ......;row ......;row ....1.;row ......;row ....2.;ball 5 5;ball 0 0";
    BallBox x = Texts.boxed(text);
    Oracle o = oracle(text);
    for (int i = 0; i < 4; i++) {
      hardest(x, o.hardest(0), o.hardest(1), o.hardest(2));
      Check.due("wall", o.wall(i, 2, true), x.wall(i, 2, true));
    }
  }

  private static Oracle oracle(String text) {
    Oracle o = new Oracle();
    int[] n = Texts.packed(text);
    for (int i = 0; i < n.length; i += 5) {
      o.feed(n[i], n[i + 1], n[i + 2], n[i + 3], n[i + 4]);
    }
    o.end(text.length());
    Check.due("the oracle's box", true, o.box() >= 0);
    return o;
  }

  /** Two great boxes, then one upon cells that were holes in the first. */
  static void promise21WhatWasReckonedIsReckonedAnew() {
    String six = "row ......;";
    BallBox x = Texts.boxed(six.repeat(5) + "row ....12;ball 0 0;ball 1 0");
    Check.due("fewest from somewhere", true, x.hardest(0) > 0);
    Texts.box(x, six.repeat(2) + "row ..1...;row ...2..;" + six + "row ......;ball 0 0;ball 1 0");
    x.hardest(0);
    Texts.box(x, "row ######;".repeat(4) + "row ####12;row ####..;ball 4 5;ball 5 5");
    hardest(x, 1, 34, 35);
    Texts.box(x, "row .1;ball 0 0");
    hardest(x, 1, 0, -2);
    Texts.box(x, "row .");
    hardest(x, 0, -2, -2);
  }

  static void promise21OtherWhats() {
    int[] others = {-1, 3, Integer.MAX_VALUE, Integer.MIN_VALUE};
    for (int what : others) {
      Bases.leaves("hardest(" + what + ")", Bases::pair, -1, x -> x.hardest(what));
    }
  }

  static void promise21WithoutABox() {
    for (int what = 0; what <= 2; what++) {
      int asked = what;
      Bases.leaves("hardest(" + what + ")", Bases::bare, -1, x -> x.hardest(asked));
    }
  }

  static void promise21NothingChanges() {
    Bases.leaves("hardest(0)", Bases::pair, Bases.pair().hardest(0), x -> x.hardest(0));
    Bases.leaves("hardest(2)", Bases::pair, Bases.pair().hardest(2), x -> x.hardest(2));
  }

  static void promise21TipsForARuleDoNotGrow() {
    hardest(Gadgets.never(), 4, 7, 0);
  }

  static void promise21TipsForARuleAreThoseThereWere() {
    BallBox x = Gadgets.never();
    x.tip(0);
    hardest(x, 4, 0, 1);
  }
}

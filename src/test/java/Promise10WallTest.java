/** Promise 10: wall. */
public final class Promise10WallTest {
  public static void main(String[] args) {
    Check.run(Promise10WallTest.class);
  }

  private static void refused(String name, int x, int y, boolean is) {
    Bases.leaves("wall " + name, Bases::rich, 0, b -> b.wall(x, y, is) ? 1 : 0);
  }

  static void promise10PutInOnAPlainCell() {
    BallBox x = Bases.rich();
    Check.due("walls", 2, x.count(13));
    Check.due("put in", true, x.wall(3, 0, true));
    Check.due("walls", 3, x.count(13));
    Check.due("cell", 1, x.cell(3, 0, 0));
  }

  static void promise10ChippedAway() {
    BallBox x = Bases.rich();
    Check.due("chipped", true, x.wall(1, 1, false));
    Check.due("walls", 1, x.count(13));
    Check.due("cell", 0, x.cell(1, 1, 0));
    Check.due("one put in by hand", true, x.wall(1, 2, false));
    Check.due("walls", 0, x.count(13));
  }

  static void promise10OnTheCornersOfTheGreatestBox() {
    BallBox x = Texts.boxed("row ......;row ......;row ......;row ......;row ......;row ......");
    Check.due("0, 0", true, x.wall(0, 0, true));
    Check.due("5, 0", true, x.wall(5, 0, true));
    Check.due("0, 5", true, x.wall(0, 5, true));
    Check.due("5, 5", true, x.wall(5, 5, true));
    Check.due("6, 5", false, x.wall(6, 5, true));
    Check.due("5, 6", false, x.wall(5, 6, true));
    Check.due("walls", 4, x.count(13));
    Check.due("5, 5 chipped", true, x.wall(5, 5, false));
  }

  static void promise10EachCell() {
    BallBox x = Texts.boxed("row ......;row ......;row ......;row ......;row ......;row ......");
    for (int i = 0; i < 36; i++) {
      Check.due("put in " + i, true, x.wall(i % 6, i / 6, true));
    }
    Check.due("walls", 36, x.count(13));
    for (int i = 0; i < 36; i++) {
      Check.due("chipped " + i, true, x.wall(i % 6, i / 6, false));
    }
    Check.due("walls", 0, x.count(13));
  }

  static void promise10NotWhereABallLies() {
    refused("upon ball 1", 0, 1, true);
    refused("upon ball 2", 2, 1, true);
  }

  static void promise10WhereABallLayThatFell() {
    BallBox x = Texts.boxed("row .1;ball 0 0");
    Check.due("it lies there", false, x.wall(0, 0, true));
    x.tip(1);
    Check.due("it fell", true, x.wall(0, 0, true));
  }

  static void promise10NotOnAHole() {
    refused("upon hole 1", 0, 0, true);
    refused("upon hole 2", 0, 2, true);
    refused("upon hole 3", 3, 2, true);
  }

  static void promise10AHoleIsNotChipped() {
    refused("away, hole 1", 0, 0, false);
    refused("away, hole 3", 3, 2, false);
  }

  static void promise10IsSoAlready() {
    refused("put in upon a wall", 1, 1, true);
    refused("chipped off a plain cell", 1, 0, false);
    refused("chipped off a cell with a ball", 0, 1, false);
  }

  static void promise10NotOutside() {
    refused("at x 4", 4, 0, true);
    refused("at y 3", 1, 3, true);
    refused("at x -1", -1, 0, true);
    refused("at y -1", 0, -1, true);
    refused("away at x 4", 4, 0, false);
    refused("away at y -1", 0, -1, false);
    refused("far outside", Integer.MIN_VALUE, Integer.MAX_VALUE, true);
    refused("far outside", 1, 1 << 29, false);
  }

  static void promise10WithoutABox() {
    Bases.leaves("wall put in", Bases::bare, 0, x -> x.wall(0, 0, true) ? 1 : 0);
    Bases.leaves("wall chipped", Bases::bare, 0, x -> x.wall(0, 0, false) ? 1 : 0);
  }

  static void promise10LeavesAllElse() {
    BallBox x = Bases.rich();
    x.wall(1, 0, true);
    x.wall(1, 0, false);
    x.wall(1, 1, false);
    x.wall(1, 1, true);
    Check.same("there and back", Whole.of(Bases.rich()), Whole.of(x));
  }

  static void promise10StopsABall() {
    BallBox x = Texts.boxed("row ....;ball 0 0");
    x.wall(3, 0, true);
    Check.due("right", 1, x.tip(1));
    Check.due("x", 2, x.ball(0, 0));
    x.wall(3, 0, false);
    Check.due("right again", 1, x.tip(1));
    Check.due("x", 3, x.ball(0, 0));
  }

  static void promise10WhatWasReckonedIsReckonedAnewBehindAPut() {
    BallBox x = Texts.boxed("row ..1;row ...;ball 0 0");
    Check.due("fewest", 1, x.fewest());
    x.wall(1, 0, true);
    x.put(0, 0, 1);
    Check.due("fewest: right, up", 2, x.fewest());
    Check.due("path", 1, x.path(0));
  }

  static void promise10WhatWasReckonedIsReckonedAnew() {
    BallBox x = Texts.boxed("row ..1;row ...;ball 0 0");
    Check.due("fewest", 1, x.fewest());
    Check.due("hardest", 2, x.hardest(0));
    Check.due("fits", 5, x.fits(0));
    Check.due("no wall to chip", -2, x.chipped(2));
    x.wall(1, 0, true);
    Check.due("fewest: down, right, up", 3, x.fewest());
    Check.due("hardest", 3, x.hardest(0));
    Check.due("fits", 4, x.fits(0));
    Check.due("chipped", 1, x.chipped(2));
  }
}

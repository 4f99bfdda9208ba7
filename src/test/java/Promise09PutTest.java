/** Promise 9: put. */
public final class Promise09PutTest {
  public static void main(String[] args) {
    Check.run(Promise09PutTest.class);
  }

  private static void refused(String name, int ball, int x, int y) {
    Bases.leaves("put " + name, Bases::rich, 0, b -> b.put(ball, x, y) ? 1 : 0);
  }

  static void promise9OnAPlainCell() {
    BallBox x = Bases.rich();
    Check.due("put", true, x.put(1, 3, 1));
    Check.due("x", 3, x.ball(1, 0));
    Check.due("y", 1, x.ball(1, 1));
    Check.due("where it lay", -1, x.cell(0, 1, 1));
    Check.due("where it lies", 1, x.cell(3, 1, 1));
  }

  static void promise9OneThatIsHome() {
    BallBox x = Bases.rich();
    Check.due("home", 1, x.count(3));
    Check.due("put", true, x.put(0, 1, 0));
    Check.due("home", 0, x.count(3));
    Check.due("in the box", 0, x.ball(0, 2));
  }

  static void promise9OneThatIsLost() {
    BallBox x = Texts.boxed("row .2;ball 0 0");
    x.tip(1);
    Check.due("lost", 1, x.count(4));
    Check.due("put where it lay", true, x.put(0, 0, 0));
    Check.due("lost", 0, x.count(4));
    Check.due("in the box", 0, x.ball(0, 2));
  }

  static void promise9OnTheCornersOfTheGreatestBox() {
    BallBox x = Texts.boxed("row ......;row ......;row ......;row ......;row ......;row ......;ball 1 1");
    Check.due("0, 0", true, x.put(0, 0, 0));
    Check.due("5, 0", true, x.put(0, 5, 0));
    Check.due("0, 5", true, x.put(0, 0, 5));
    Check.due("5, 5", true, x.put(0, 5, 5));
    Check.due("6, 5", false, x.put(0, 6, 5));
    Check.due("5, 6", false, x.put(0, 5, 6));
  }

  static void promise9NotUponItself() {
    refused("upon itself", 1, 0, 1);
  }

  static void promise9NotUponAnotherOne() {
    refused("upon ball 2", 1, 2, 1);
    refused("one that fell upon ball 1", 0, 0, 1);
  }

  static void promise9NotUponAWall() {
    refused("upon a wall", 1, 1, 1);
    refused("upon a wall put in by hand", 1, 1, 2);
  }

  static void promise9NotUponAHole() {
    refused("upon its own hole", 1, 0, 2);
    refused("upon another one's", 1, 0, 0);
    refused("one that is home upon its hole", 0, 0, 0);
  }

  static void promise9NotOutside() {
    refused("at x 4", 1, 4, 0);
    refused("at y 3", 1, 1, 3);
    refused("at x -1", 1, -1, 0);
    refused("at y -1", 1, 1, -1);
    refused("far outside", 1, Integer.MAX_VALUE, Integer.MIN_VALUE);
    refused("far outside", 1, 1 << 29, 1);
  }

  static void promise9NoSuchBall() {
    refused("ball 3", 3, 1, 0);
    refused("ball -1", -1, 1, 0);
    refused("the greatest number", Integer.MAX_VALUE, 1, 0);
    refused("the least number", Integer.MIN_VALUE, 1, 0);
    BallBox x = Texts.boxed("row ...;ball 0 0;ball 1 0");
    Check.due("ball 2 of two", false, x.put(2, 2, 0));
    Check.due("balls", 2, x.count(2));
    Check.due("nobody lies there", -1, x.cell(2, 0, 1));
  }

  static void promise9WithoutABox() {
    Bases.leaves("put", Bases::bare, 0, x -> x.put(0, 0, 0) ? 1 : 0);
  }

  static void promise9LeavesAllElse() {
    BallBox x = Bases.rich();
    x.put(1, 3, 1);
    x.put(1, 0, 1);
    Check.same("there and back", Whole.of(Bases.rich()), Whole.of(x));
    Check.due("put is no tip", 0, putOnce().count(5));
  }

  private static BallBox putOnce() {
    BallBox x = Texts.boxed("row ..;ball 0 0");
    x.put(0, 1, 0);
    return x;
  }

  static void promise9WhatWasReckonedIsReckonedAnew() {
    BallBox x = Texts.boxed("row ..1;row ...;ball 0 0");
    Check.due("fewest", 1, x.fewest());
    Check.due("walled: down, right, up", 3, x.walled(2));
    x.put(0, 0, 1);
    Check.due("fewest", 2, x.fewest());
    Check.due("walled", 2, x.walled(2));
  }
}

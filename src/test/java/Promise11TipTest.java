/** Promise 11: tip, and the terms of rolling. */
public final class Promise11TipTest {
  private static final String SQUARE = "row ...;row .#.;row ...;ball 0 0";

  public static void main(String[] args) {
    Check.run(Promise11TipTest.class);
  }

  private static void lies(BallBox x, int ball, int column, int row) {
    Check.due("x of ball " + ball, column, x.ball(ball, 0));
    Check.due("y of ball " + ball, row, x.ball(ball, 1));
  }

  static void promise11EachWay() {
    BallBox x = Texts.boxed(SQUARE);
    int[] ways = {1, 2, 3, 0};
    int[] cells = {2, 22, 20, 0};
    for (int i = 0; i < 4; i++) {
      Check.due("tip " + ways[i], 1, x.tip(ways[i]));
      lies(x, 0, cells[i] % 10, cells[i] / 10);
    }
  }

  static void promise11FirstAndLastWay() {
    BallBox x = Texts.boxed(SQUARE);
    Check.due("way 0", 0, x.tip(0));
    Check.due("way 3", 0, x.tip(3));
    Check.due("tips", 2, x.count(5));
  }

  static void promise11OtherWaysAreRefused() {
    int[] others = {-1, -2, 4, 5, Integer.MAX_VALUE, Integer.MIN_VALUE};
    for (int way : others) {
      Bases.leaves("tip(" + way + ")", Bases::rich, -1, x -> x.tip(way));
    }
  }

  static void promise11WithoutABoxItIsRefused() {
    for (int way = 0; way <= 3; way++) {
      int by = way;
      Bases.leaves("tip(" + way + ")", Bases::bare, -1, x -> x.tip(by));
    }
  }

  static void promise11IsATipAlsoIfNothingRolls() {
    BallBox x = Texts.boxed(SQUARE);
    Check.due("up", 0, x.tip(0));
    Check.due("tips", 1, x.count(5));
    BallBox empty = Texts.boxed("row .");
    Check.due("without balls", 0, empty.tip(1));
    Check.due("tips", 1, empty.count(5));
  }

  static void promise11IsATipAlsoIfAllFell() {
    BallBox x = Texts.boxed("row .1;ball 0 0");
    Check.due("right", 10, x.tip(1));
    Check.due("right again", 0, x.tip(1));
    Check.due("tips", 2, x.count(5));
    Check.due("home stays", 1, x.ball(0, 2));
  }

  static void promise11ThreeHits() {
    Check.due("right", 3, Texts.boxed("row ..;row ..;row ..;ball 0 0;ball 0 1;ball 0 2").tip(1));
  }

  static void promise11ThreeFalls() {
    BallBox x = Texts.boxed("row .1;row .2;row .3;ball 0 0;ball 0 1;ball 0 2");
    Check.due("right", 30, x.tip(1));
    Check.due("home", 3, x.count(3));
  }

  static void promise11HitsAndFallsTogether() {
    BallBox x = Texts.boxed("row .1;row ..;row ..;ball 0 0;ball 0 1;ball 1 2");
    Check.due("right: a fall, a hit, and one that does not roll", 11, x.tip(1));
  }

  static void promise11AHitRolledOneCellAtLeast() {
    Check.due("one cell", 1, Texts.boxed("row ..;ball 0 0").tip(1));
    Check.due("none", 0, Texts.boxed("row ..;ball 1 0").tip(1));
  }

  static void promise11ThroughTheWholeBox() {
    String six = "row ......;row ......;row ......;row ......;row ......;row ......;";
    BallBox x = Texts.boxed(six + "ball 0 0");
    Check.due("right", 1, x.tip(1));
    lies(x, 0, 5, 0);
    Check.due("down", 1, x.tip(2));
    lies(x, 0, 5, 5);
    Check.due("left", 1, x.tip(3));
    lies(x, 0, 0, 5);
    Check.due("up", 1, x.tip(0));
    lies(x, 0, 0, 0);
  }

  static void promise11TillTheEndOfASmallBox() {
    BallBox x = Texts.boxed("row ...;row ...;ball 0 0");
    x.tip(1);
    lies(x, 0, 2, 0);
    x.tip(2);
    lies(x, 0, 2, 1);
  }

  static void promise11TillAWall() {
    BallBox x = Texts.boxed("row ...#.;ball 0 0");
    Check.due("right", 1, x.tip(1));
    lies(x, 0, 2, 0);
    Check.due("right again", 0, x.tip(1));
  }

  static void promise11TillAnotherBall() {
    BallBox x = Texts.boxed("row .....;ball 0 0;ball 4 0");
    Check.due("right", 1, x.tip(1));
    lies(x, 0, 3, 0);
    Check.due("beside it", 0, x.tip(1));
  }

  static void promise11IntoItsOwnHoleItIsHome() {
    String[] boxes = {"row .1;ball 0 0", "row #.2;row .##;ball 0 1;ball 1 0", "row ##.3;row ..##;ball 0 1;ball 1 1;ball 2 0"};
    for (int ball = 0; ball < 3; ball++) {
      BallBox x = Texts.boxed(boxes[ball]);
      x.tip(1);
      Check.due("ball " + ball, 1, x.ball(ball, 2));
      Check.due("home", 1, x.count(3));
      Check.due("lost", 0, x.count(4));
    }
  }

  static void promise11IntoAnotherOnesItIsLost() {
    for (int hole = 2; hole <= 3; hole++) {
      BallBox x = Texts.boxed("row ." + hole + ";ball 0 0");
      Check.due("right", 10, x.tip(1));
      Check.due("ball 0", 2, x.ball(0, 2));
      Check.due("lost", 1, x.count(4));
      Check.due("home", 0, x.count(3));
    }
  }

  static void promise11FallsAtOnce() {
    BallBox x = Texts.boxed("row ..1.2;ball 0 0");
    Check.due("right", 10, x.tip(1));
    Check.due("into the first hole", 1, x.ball(0, 2));
  }

  static void promise11WhoFellStopsNobody() {
    BallBox x = Texts.boxed("row .1..;ball 2 0;ball 3 0");
    Check.due("left: one home, the next one lost behind it", 20, x.tip(3));
    Check.due("ball 0", 1, x.ball(0, 2));
    Check.due("ball 1", 2, x.ball(1, 2));
  }

  static void promise11WhoFellDoesNotRollAgain() {
    BallBox x = Texts.boxed("row .1;row ..;ball 0 0;ball 0 1");
    Check.due("right", 11, x.tip(1));
    Check.due("left", 1, x.tip(3));
    Check.due("ball 0", 1, x.ball(0, 2));
    Check.due("tips", 2, x.count(5));
  }

  static void promise11WithoutARuleTheFurthestFirst() {
    BallBox x = Texts.boxed("row ......;ball 0 0;ball 1 0;ball 2 0");
    Check.due("right", 3, x.tip(1));
    lies(x, 2, 5, 0);
    lies(x, 1, 4, 0);
    lies(x, 0, 3, 0);
    Check.due("left", 3, x.tip(3));
    lies(x, 0, 0, 0);
    lies(x, 1, 1, 0);
    lies(x, 2, 2, 0);
    BallBox y = Texts.boxed("row .;row .;row .;row .;ball 0 1;ball 0 0");
    Check.due("down", 2, y.tip(2));
    lies(y, 0, 0, 3);
    lies(y, 1, 0, 2);
    Check.due("up", 2, y.tip(0));
    lies(y, 1, 0, 0);
    lies(y, 0, 0, 1);
  }

  /** Two that lie side by side, in all places and in both orders: the one ahead makes room for the other one. */
  static void promise11WithoutARuleTheFurthestFirstAnywhere() {
    String[] boxes = {"row ......", "row .;row .;row .;row .;row .;row ."};
    for (int i = 0; i < 5; i++) {
      for (int order = 0; order <= 1; order++) {
        int first = i + order;
        int second = i + 1 - order;
        BallBox across = Texts.boxed(boxes[0] + ";ball " + first + " 0;ball " + second + " 0");
        Check.due("right from " + first + ", " + second, i < 4 ? 2 : 0, across.may(1));
        Check.due("left from " + first + ", " + second, i > 0 ? 2 : 0, across.may(3));
        BallBox down = Texts.boxed(boxes[1] + ";ball 0 " + first + ";ball 0 " + second);
        Check.due("down from " + first + ", " + second, i < 4 ? 2 : 0, down.may(2));
        Check.due("up from " + first + ", " + second, i > 0 ? 2 : 0, down.may(0));
      }
    }
  }

  static void promise11ByARuleTheLeastFirst() {
    BallBox x = Texts.boxed("row ......;ball 0 0;ball 1 0;ball 2 0");
    Texts.rule(x, "first 10-ball*ball*ball");
    Texts.rule(x, "first ball*7%3");
    x.force(0);
    Check.due("2, 1, 0: all roll", 3, x.may(1));
    x.force(1);
    Check.due("0, 1, 2: the last one alone", 1, x.tip(1));
    lies(x, 0, 0, 0);
    lies(x, 1, 1, 0);
    lies(x, 2, 5, 0);
  }

  static void promise11OfSeveralAlikeByTheirNumbers() {
    BallBox x = Texts.boxed("row ......;ball 0 0;ball 1 0;ball 2 0");
    Texts.rule(x, "first 7");
    Texts.rule(x, "first 7 if ball<2;first 6");
    Texts.rule(x, "first 7 if ball>0;first 8");
    x.force(0);
    Check.due("0, 1, 2", 1, x.may(1));
    x.force(1);
    Check.due("2, 0, 1: 0 is stopped by 1", 2, x.may(1));
    x.force(2);
    Check.due("1, 2, 0: 1 is stopped by 2", 1, x.tip(1));
    lies(x, 2, 5, 0);
    lies(x, 1, 1, 0);
    lies(x, 0, 0, 0);
  }

  static void promise11SumsBelowZeroAndVeryGreatOnes() {
    BallBox x = Texts.boxed("row ....;ball 0 0;ball 1 0");
    Texts.rule(x, "first 0-ball");
    Texts.rule(x, "first 99999*99999-ball*99999*99999");
    Texts.rule(x, "first 32768*32768*32768*32768*8 if ball=1;first 0-1");
    Texts.rule(x, "first 32768*32768*32768*32768*8-1 if ball=0;first 32768*32768*32768*32768*8");
    for (int rule = 0; rule <= 3; rule++) {
      x.force(rule);
      Check.due("ball 1 first by rule " + rule, 2, x.may(1));
    }
  }

  static void promise11TheOrderIsAsAllAreAheadOfIt() {
    // Ball 0 could roll none, ball 1 three: by ahead ball 0 is first though it can't roll.
    BallBox x = Texts.boxed("row .....;ball 0 0;ball 1 0");
    Texts.rule(x, "first ahead");
    Texts.rule(x, "first 0-ahead");
    x.force(0);
    Check.due("least ahead first", 1, x.may(1));
    x.force(1);
    Check.due("most ahead first", 2, x.may(1));
    // home is as it was ahead of the tip, though ball 0 comes home in it.
    BallBox y = Texts.boxed("row 1.....;ball 1 0;ball 4 0;ball 3 0");
    Texts.rule(y, "first ball if home=0;first 0-ball");
    y.force(0);
    Check.due("0 home, 1 stopped by 2, 2 lost", 20, y.tip(3));
    lies(y, 1, 4, 0);
  }

  static void promise11OneBehindTheOther() {
    BallBox x = Texts.boxed("row 1.....;ball 5 0;ball 4 0;ball 3 0");
    Texts.rule(x, "first 2-ball");
    x.force(0);
    Check.due("2, 1 and 0 fall", 30, x.tip(3));
    Check.due("ball 0", 1, x.ball(0, 2));
    Check.due("ball 1", 2, x.ball(1, 2));
    Check.due("ball 2", 2, x.ball(2, 2));
    BallBox y = Texts.boxed("row 1.....;ball 5 0;ball 4 0;ball 3 0");
    Texts.rule(y, "first ball");
    y.force(0);
    Check.due("0 and 1 are stopped, 2 falls", 10, y.tip(3));
    Check.due("0 is stopped, 1 falls", 10, y.tip(3));
    Check.due("0 falls", 10, y.tip(3));
    Check.due("ball 0", 1, y.ball(0, 2));
  }

  static void promise11TipsForARuleAreThoseAheadOfIt() {
    BallBox x = Texts.boxed("row .....;ball 0 0;ball 1 0");
    Texts.rule(x, "first 1-ball if tips=0;first ball");
    x.force(0);
    Check.due("no tips: ball 1 first", 2, x.tip(1));
    x.put(0, 0, 0);
    x.put(1, 1, 0);
    Check.due("one tip: ball 0 first", 1, x.tip(1));
  }

  static void promise11LeavesTheRowTheSoundsAndX() {
    BallBox x = Bases.rich();
    x.tip(1);
    int[] whats = {6, 7, 8, 9, 10, 11, 12, 13};
    BallBox y = Bases.rich();
    for (int what : whats) {
      Check.due("count(" + what + ")", y.count(what), x.count(what));
    }
    Check.due("tips", 2, x.count(5));
  }

  static void promise11WhatWasReckonedIsReckonedAnew() {
    BallBox x = Texts.boxed("row ...;row #.1;ball 0 0");
    Check.due("fewest", 2, x.fewest());
    Check.due("path", 1, x.path(0));
    Check.due("walled", 3, x.walled(2));
    x.tip(1);
    Check.due("fewest", 1, x.fewest());
    Check.due("path", 2, x.path(0));
    Check.due("walled", 1, x.walled(2));
  }
}

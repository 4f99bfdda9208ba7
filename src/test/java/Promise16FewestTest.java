/** Promise 16: fewest. */
public final class Promise16FewestTest {
  private static final String GRID = "row #...#.;row .#....;row #..#..;row ..#..#;row ...#..;row .#..#.";

  public static void main(String[] args) {
    Check.run(Promise16FewestTest.class);
  }

  private static int byAhead(String box) {
    return Gadgets.told(box, "first ahead").fewest();
  }

  static void promise16AllAreHomeNow() {
    BallBox x = Texts.boxed("row .1;ball 0 0");
    x.tip(1);
    Check.due("fewest()", 0, x.fewest());
  }

  static void promise16WithoutBalls() {
    Check.due("fewest()", 0, Texts.boxed("row #").fewest());
    Check.due("fewest()", 0, Texts.boxed("row .1").fewest());
  }

  static void promise16OneTip() {
    Check.due("up", 1, Texts.boxed("row 1;row .;ball 0 1").fewest());
    Check.due("right", 1, Texts.boxed("row .1;ball 0 0").fewest());
    Check.due("down", 1, Texts.boxed("row .;row 1;ball 0 0").fewest());
    Check.due("left", 1, Texts.boxed("row 1.;ball 1 0").fewest());
  }

  static void promise16MoreTips() {
    Check.due("two", 2, Texts.boxed("row 1..;row .#.;row ..2;ball 2 0;ball 0 2").fewest());
    Check.due("three", 3, Texts.boxed("row .2..;row ...1;ball 0 0;ball 3 0").fewest());
  }

  static void promise16FromNowOn() {
    BallBox x = Texts.boxed("row 1..;row .#.;row ..2;ball 2 0;ball 0 2");
    x.tip(1);
    Check.due("behind one of two", 1, x.fewest());
    x.tip(3);
    Check.due("behind both", 0, x.fewest());
  }

  static void promise16ManyTips() {
    Check.due("24", 24, byAhead("row 1.#...;row #....#;row .#....;row ...##.;row ..#...;row #.2#3#;ball 2 1;ball 3 1;ball 0 4"));
  }

  static void promise16NeverIfOneIsLost() {
    BallBox x = Texts.boxed("row .2.1;ball 0 0");
    x.tip(1);
    Check.due("fewest()", -2, x.fewest());
  }

  static void promise16NeverIfOneIsLostAndTheOthersHome() {
    BallBox x = Texts.boxed("row .1;row .2;row .3;ball 0 0;ball 0 2;ball 0 1");
    Check.due("right", 30, x.tip(1));
    Check.due("home", 1, x.count(3));
    Check.due("fewest()", -2, x.fewest());
  }

  static void promise16NeverWithoutAHole() {
    Check.due("one of one", -2, Texts.boxed("row ..;ball 0 0").fewest());
    Check.due("one of two", -2, Texts.boxed("row ..;row .1;ball 0 1;ball 0 0").fewest());
  }

  static void promise16NeverBehindAWall() {
    Check.due("fewest()", -2, Texts.boxed("row .#1;ball 0 0").fewest());
  }

  static void promise16NeverIfItCanOnlyBeLost() {
    Check.due("each falls into the other one's", -2, Texts.boxed("row 2..1;ball 1 0;ball 2 0").fewest());
  }

  static void promise16FourThousandSituations() {
    Check.due("never, by just 4000", -2, byAhead(GRID + ";ball 1 2;ball 1 3;ball 5 0"));
  }

  static void promise16OneSituationMore() {
    Check.due("unknown, by 4001", -3, byAhead(GRID + ";ball 4 3;ball 2 1;ball 3 1"));
  }

  static void promise16ManySituationsMore() {
    Check.due("unknown", -3,
        byAhead("row .#....;row .....#;row ..##..;row #...#.;row .#...#;row ...#..;ball 1 5;ball 0 5;ball 1 2"));
  }

  static void promise16ThoseWithALostBallDoNotCome() {
    Check.due("never; above 4000 with them", -2,
        byAhead("row .1..#.;row .#....;row #..#..;row ..#..#;row ...#..;row .#..#3;ball 2 1;ball 2 4;ball 2 2"));
  }

  /** Above 4000 if those in which just this ball is lost came, too. */
  static void promise16WhicheverBallIsLost() {
    String upper = "row #...#.;row .#....;row #..#..;row ..#..#;row ...#..;row ";
    Check.due("ball 0", -2, byAhead(upper + ".#.2#.;ball 0 5;ball 5 5;ball 2 5"));
    Check.due("ball 1", -2, byAhead(upper + ".#.1#.;ball 3 1;ball 5 2;ball 4 1"));
    Check.due("ball 2", -2, byAhead(upper + ".#..#2;ball 2 4;ball 0 4;ball 2 0"));
  }

  static void promise16ByTheRuleInForce() {
    BallBox x = Texts.boxed("row .#....;row .....#;row ..##..;row #...#.;row .#...#;row ...#..;ball 1 5;ball 0 5;ball 1 2");
    Check.due("never without the rule", -2, x.fewest());
    Texts.rule(x, "first ahead");
    x.force(0);
    Check.due("unknown by it", -3, x.fewest());
  }

  static void promise16WithoutABox() {
    Bases.leaves("fewest()", Bases::bare, -1, BallBox::fewest);
    Bases.leaves("fewest()", Bases::fresh, -1, BallBox::fewest);
  }

  static void promise16NothingChanges() {
    Bases.leaves("fewest()", Bases::rich, 2, BallBox::fewest);
  }

  static void promise16TipsForARuleDoNotGrow() {
    Check.due("never", -2, Gadgets.never().fewest());
  }

  static void promise16TipsForARuleAreThoseThereWere() {
    BallBox x = Gadgets.never();
    x.tip(0);
    Check.due("one tip, though nothing rolled", 4, x.fewest());
  }
}

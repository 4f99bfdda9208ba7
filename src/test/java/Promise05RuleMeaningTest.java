/** Promise 5 and the terms of a rule: what its words, sums, tests and clauses mean, as heard by may. */
public final class Promise05RuleMeaningTest {
  private static final String LINE = "row .....;row ..1..;ball 0 0;ball 1 0";

  public static void main(String[] args) {
    Check.run(Promise05RuleMeaningTest.class);
  }

  /** Whether the test holds of ball 0 or 1 ahead of a tip to the right: then ball 1 rolls first, and both roll. */
  private static boolean holds(BallBox x, int ball, String test) {
    String text = ball == 0 ? "first 1 if ball=0 and [" + test + "]" : "first 0-1 if ball=1 and [" + test + "]";
    int rule = Texts.rule(x, text);
    if (rule < 0) {
      throw new IllegalStateException(text);
    }
    x.force(rule);
    int told = x.may(1);
    return told % 10 + told / 10 == 2;
  }

  private static void so(String test) {
    Check.due(test, true, holds(Texts.boxed(LINE), 0, test));
  }

  private static void notSo(String test) {
    Check.due(test, false, holds(Texts.boxed(LINE), 0, test));
  }

  private static void of(int ball, String box, String test) {
    Check.due("ball " + ball + ": " + test, true, holds(Texts.boxed(box), ball, test));
  }

  private static int mayBy(String rule) {
    BallBox x = Texts.boxed(LINE);
    Texts.rule(x, rule);
    x.force(0);
    return x.may(1);
  }

  static void promise5BallIsItsNumber() {
    of(0, LINE, "ball=0");
    of(1, LINE, "ball=1");
  }

  static void promise5XAndYAreItsCell() {
    of(0, LINE, "x=0 and y=0");
    of(1, LINE, "x=1 and y=0");
    of(1, "row .....;row .....;row .....;ball 0 2;ball 1 2", "x=1 and y=2");
    of(0, "row ......;row ......;row ......;row ......;row ......;row ......;ball 3 5;ball 4 5", "x=3 and y=5");
  }

  static void promise5AheadWithoutAnyCell() {
    of(0, LINE, "ahead=0");
    of(1, "row ..#;row ...;ball 0 1;ball 1 1", "ahead=1");
  }

  static void promise5AheadUpToTheEndOfTheBox() {
    of(1, LINE, "ahead=3");
    of(0, "row ......;ball 0 0;ball 1 0", "ahead=0");
    of(1, "row ......;ball 0 0;ball 1 0", "ahead=4");
  }

  static void promise5AheadUpToAWall() {
    of(1, "row ...#.;ball 0 0;ball 1 0", "ahead=1");
  }

  static void promise5AheadIsAsIfItRolledFirst() {
    // Two cells are free between both; though ball 1 makes room, it is as they lie.
    of(0, "row ......;ball 0 0;ball 3 0", "ahead=2");
  }

  /** The hole is one of the cells by which it rolls; those behind it are not. */
  static void promise5AheadCountsTheHole() {
    of(1, "row ...1.;ball 0 0;ball 1 0", "ahead=2");
    of(1, "row ...2.;ball 0 0;ball 1 0", "ahead=2");
    of(1, "row ..1..;ball 0 0;ball 1 0", "ahead=1");
  }

  static void promise5WayIsThatOfTheTip() {
    of(0, LINE, "way=1");
    String[] boxes = {"row .;row .;row .;ball 0 2;ball 0 1", "", "row .;row .;row .;ball 0 0;ball 0 1", "row ...;ball 2 0;ball 1 0"};
    for (int way = 0; way <= 3; way++) {
      if (way != 1) {
        BallBox x = Texts.boxed(boxes[way]);
        Texts.rule(x, "first 0-ball if way=" + way + ";first ball");
        x.force(0);
        Check.due("ball 1 first by way " + way, 2, x.may(way));
      }
    }
  }

  static void promise5TipsAreThoseThereWere() {
    BallBox x = Texts.boxed(LINE);
    Check.due("none", true, holds(x, 0, "tips=0"));
    x.tip(0);
    Check.due("one, though nothing rolled", true, holds(x, 0, "tips=1"));
    Texts.box(x, LINE);
    Check.due("none in a new box", true, holds(x, 0, "tips=0"));
  }

  static void promise5HomeIsHowManyBalls() {
    BallBox x = Texts.boxed("row .....;row .3...;ball 0 0;ball 1 0;ball 0 1");
    x.tip(1);
    x.put(0, 0, 0);
    x.put(1, 1, 0);
    Check.due("ball 2 is home", 1, x.count(3));
    Check.due("one", true, holds(x, 0, "home=1"));
    x.put(2, 4, 1);
    Check.due("put in the box again", true, holds(x, 1, "home=0"));
  }

  static void promise5HomeIsNotTheLostOnes() {
    BallBox x = Texts.boxed("row .....;row .1...;ball 0 0;ball 1 0;ball 0 1");
    x.tip(1);
    x.put(0, 0, 0);
    x.put(1, 1, 0);
    Check.due("ball 2 is lost", 1, x.count(4));
    Check.due("none is home", true, holds(x, 0, "home=0"));
  }

  static void promise5StepsToItsHole() {
    of(0, LINE, "steps=3");
    of(1, "row ....2;row ..1..;ball 0 0;ball 1 0", "steps=3");
    of(0, "row 1.....;row ......;row ......;row ......;row ......;row ......;ball 3 5;ball 4 5", "steps=8");
  }

  static void promise5StepsAsIfThereWereNoWalls() {
    of(0, "row ...;row ##.;row 1..;ball 0 0;ball 1 0", "steps=2");
  }

  static void promise5StepsWithoutAHoleAreZero() {
    of(1, LINE, "steps=0");
    notSo("steps=0");
  }

  static void promise5TimesBindsCloserThanPlus() {
    so("1+2*3=7");
    so("2*3+1=7");
    so("9-4/2=7");
    so("9-5%3=7");
    so("1+7%4*2-6/3=5");
  }

  static void promise5FromTheLeftToTheRight() {
    so("7-2-1=4");
    so("12/2/3=2");
    so("12/4*3=9");
    so("17%5*2=4");
    so("2*9%5=3");
    so("1-2+3=2");
  }

  static void promise5DivisionIsTowardsZero() {
    so("7/2=3");
    so("0-7/2=0-3");
    // With a dividend below 0, made by going round.
    so("32768*32768*32768*32768*8/32768/32768/32768/32768*3/16=0-1");
    so("1/2=0");
  }

  static void promise5RestHasTheSignOfTheDividend() {
    so("17%5=2");
    so("32768*32768*32768*32768*8%3=0-2");
    so("4%4=0");
    so("3%4=3");
  }

  static void promise5ByZeroIsZero() {
    so("5/0=0");
    so("5%0=0");
    so("1-5/0=1");
    so("1-5%0=1");
    so("0/0=0");
    so("5/x=0");
    notSo("5/0=5");
    notSo("5%0=5");
  }

  static void promise5GoesRoundIn64Bits() {
    so("32768*32768*32768*32768*8<0");
    so("32768*32768*32768*32768*16=0");
    so("32768*32768*32768*32768*8-1>0");
    so("32768*32768*32768*32768*4>0");
    so("32768*32768*32768*32768*4+32768*32768*32768*32768*4<0");
    so("0-32768*32768*32768*32768*8<0");
    // The least number is what it is taken from 0.
    so("32768*32768*32768*32768*8=0-32768*32768*32768*32768*8");
    so("99999*99999*99999*99999=99999*99999*99999*99999%32768+99999*99999*99999*99999/32768*32768");
  }

  static void promise5NumbersToldWithZerosAhead() {
    so("00012=12");
    so("99999=99998+1");
    so("00000=0");
  }

  static void promise5SignsAtTheirEdge() {
    so("1<2");
    notSo("1<1");
    notSo("2<1");
    so("1<=1");
    so("1<=2");
    notSo("2<=1");
    so("1=1");
    notSo("1=2");
    notSo("2=1");
    so("2>=2");
    so("2>=1");
    notSo("1>=2");
    so("3>2");
    notSo("2>2");
    notSo("1>2");
    so("0-1<0");
    notSo("0-1>0");
  }

  static void promise5AndBindsCloserThanOr() {
    so("1=1 or 1=1 and 1=2");
    so("1=2 and 1=1 or 1=1");
    notSo("1=1 and 1=2 or 1=3");
    so("1=2 or 2=2 and 3=3");
    notSo("1=2 or 1=1 and 1=2");
    so("1=2 or 1=3 or 1=1");
    notSo("1=1 and 1=1 and 1=2");
    so("1=2 and 1=2 or 1=1 and 1=1");
  }

  static void promise5NotTakesTheNextFactAlone() {
    so("not 1=2");
    notSo("not 1=1");
    so("not not 1=1");
    notSo("not not not 1=1");
    notSo("not 1=2 and 1=2");
    so("not 1=1 or 1=1");
    so("not [1=1 and 1=2]");
    notSo("not [1=2 or 1=1]");
  }

  static void promise5BracketsHoldTogether() {
    notSo("[1=1 or 1=1] and 1=2");
    so("[1=1 or 1=2] and [1=2 or 1=1]");
    so("[[[1=1]]]");
  }

  static void promise5FirstClauseWithoutATest() {
    Check.due("ball 1 first", 2, mayBy("first 1-ball;first ball"));
    Check.due("ball 0 first", 1, mayBy("first ball;first 1-ball"));
  }

  static void promise5FirstClauseThatHolds() {
    Check.due("the second", 2, mayBy("first ball if 1=2;first 1-ball if 1=1;first ball"));
    Check.due("the first of two that hold", 2, mayBy("first 1-ball if 1=1;first ball if 1=1"));
    Check.due("each ball by its own", 2, mayBy("first 5 if x=0;first 4"));
  }

  static void promise5TwelfthClauseHolds() {
    Check.due("the twelfth", 2, mayBy("first ball if 1=2;".repeat(11) + "first 0-ball"));
    Check.due("the twelfth, with a test", 2, mayBy("first ball if 1=2;".repeat(11) + "first 0-ball if 1=1"));
  }

  static void promise5ZeroWithoutAClauseThatHolds() {
    Check.due("both 0: by their numbers", 1, mayBy("first 0-ball if 1=2"));
    Check.due("0 is below 1", 2, mayBy("first 1 if ball=0"));
    Check.due("0 is above -1", 2, mayBy("first 0-1 if ball=1"));
    Check.due("twelve, none holds", 1, mayBy("first 0-ball if 1=2;".repeat(11) + "first 0-ball if not 1=1"));
  }

  static void promise5SixtyValuesAreAllReckoned() {
    Check.due("60", 1, mayBy("first 1" + "+1".repeat(57) + "-ball*0"));
    so("x" + "+1".repeat(40) + "=40");
    Check.due("the last of 60 tells", 2, mayBy("first 1" + "+1".repeat(58) + "-ball"));
  }

  static void promise5TenDeepIsReckoned() {
    so("not ".repeat(9) + "1=2");
    notSo("not ".repeat(8) + "1=2");
    so("[not [not [not [not 1=1]]]]");
  }
}

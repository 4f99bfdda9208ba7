/** Promise 8: ball. */
public final class Promise08BallTest {
  private static final String BOX = "row 1..2;row ....;ball 3 1;ball 1 1;ball 2 1";

  public static void main(String[] args) {
    Check.run(Promise08BallTest.class);
  }

  private static void due(BallBox x, int ball, int... answers) {
    for (int what = 0; what < answers.length; what++) {
      Check.due("ball(" + ball + ", " + what + ")", answers[what], x.ball(ball, what));
    }
  }

  static void promise8InTheBox() {
    BallBox x = Texts.boxed(BOX);
    due(x, 0, 3, 1, 0, 4);
    due(x, 1, 1, 1, 0, 3);
  }

  static void promise8WithoutAHole() {
    due(Texts.boxed(BOX), 2, 2, 1, 0, -1);
  }

  static void promise8Home() {
    BallBox x = Texts.boxed("row .1;ball 0 0");
    x.tip(1);
    due(x, 0, -1, -1, 1, -1);
  }

  static void promise8Lost() {
    BallBox x = Texts.boxed(BOX);
    Check.due("up: ball 0 falls into hole 2", 12, x.tip(0));
    due(x, 0, -1, -1, 2, -1);
  }

  static void promise8PutInTheBoxAgain() {
    BallBox x = Texts.boxed("row .1;ball 0 0");
    x.tip(1);
    x.put(0, 0, 0);
    due(x, 0, 0, 0, 0, 1);
  }

  static void promise8StepsByAllFourWays() {
    Check.due("up and to the right", 3, Texts.boxed("row ...;row ..1;row ...;row ...;ball 1 3").ball(0, 3));
    Check.due("down and to the left", 3, Texts.boxed("row ...;row ...;row ...;row 1..;ball 1 1").ball(0, 3));
    Check.due("one step", 1, Texts.boxed("row .1;ball 0 0").ball(0, 3));
    Check.due("as if there were no walls", 2, Texts.boxed("row .#1;ball 0 0").ball(0, 3));
    Check.due("from corner to corner", 10,
        Texts.boxed("row 1.....;row ......;row ......;row ......;row ......;row ......;ball 5 5").ball(0, 3));
  }

  static void promise8LastBallAndFirstThatIsNot() {
    BallBox x = Texts.boxed(BOX);
    Check.due("ball 2", 0, x.ball(2, 2));
    Check.due("ball 3", -1, x.ball(3, 2));
    Check.due("ball -1", -1, x.ball(-1, 2));
    BallBox y = Texts.boxed("row ..;ball 0 0;ball 1 0");
    Check.due("ball 1 of two", 0, y.ball(1, 2));
    Check.due("ball 2 of two", -1, y.ball(2, 2));
    Check.due("ball 0 of none", -1, Texts.boxed("row .").ball(0, 2));
    Check.due("the greatest number", -1, x.ball(Integer.MAX_VALUE, 2));
    Check.due("the least number", -1, x.ball(Integer.MIN_VALUE, 2));
  }

  static void promise8OtherWhats() {
    BallBox x = Texts.boxed(BOX);
    Check.due("what 3", 4, x.ball(0, 3));
    Check.due("what 4", -1, x.ball(0, 4));
    Check.due("what -1", -1, x.ball(0, -1));
    Check.due("the greatest number", -1, x.ball(0, Integer.MAX_VALUE));
    Check.due("the least number", -1, x.ball(0, Integer.MIN_VALUE));
  }

  static void promise8WithoutABox() {
    due(new BallBox(), 0, -1, -1, -1, -1);
  }

  static void promise8NothingChanges() {
    Bases.leaves("ball(1, 3)", Bases::rich, 1, x -> x.ball(1, 3));
    Bases.leaves("ball(3, 0)", Bases::rich, -1, x -> x.ball(3, 0));
  }
}

/** Promise 13: press. */
public final class Promise13PressTest {
  public static void main(String[] args) {
    Check.run(Promise13PressTest.class);
  }

  static void promise13AnswersHowManyTheRowHas() {
    BallBox x = Texts.boxed("row .");
    for (int i = 1; i <= 8; i++) {
      Check.due("press " + i, i, x.press(i % 4));
      Check.due("count(8)", i, x.count(8));
    }
  }

  static void promise13NinthIsRefused() {
    for (int way = 0; way <= 3; way++) {
      int by = way;
      Bases.leaves("a ninth, " + way, Bases::full, -2, x -> x.press(by));
    }
  }

  static void promise13FirstAndLastWay() {
    Check.due("press(0)", 1, Texts.boxed("row .").press(0));
    Check.due("press(3)", 1, Texts.boxed("row .").press(3));
  }

  static void promise13OthersAreRefused() {
    int[] others = {-2, 4, 5, Integer.MAX_VALUE, Integer.MIN_VALUE};
    for (int way : others) {
      Bases.leaves("press(" + way + ")", Bases::rich, -2, x -> x.press(way));
    }
  }

  static void promise13NoneMakesItEmpty() {
    BallBox x = Bases.full();
    Check.due("press(-1)", 0, x.press(-1));
    Check.due("count(8)", 0, x.count(8));
    Check.due("nothing rolls behind it", 0, x.would(2) + x.would(3));
    Check.due("press(-1) again", 0, x.press(-1));
    Check.due("press(0)", 1, x.press(0));
  }

  static void promise13NoneWithoutABox() {
    Bases.leaves("press(-1)", Bases::bare, 0, x -> x.press(-1));
  }

  static void promise13WithoutABoxItIsRefused() {
    for (int way = 0; way <= 3; way++) {
      int by = way;
      Bases.leaves("press(" + way + ")", Bases::bare, -2, x -> x.press(by));
    }
    Bases.leaves("press(4)", Bases::bare, -2, x -> x.press(4));
  }

  static void promise13ComesBehindTheRow() {
    // Right and down brings it home, down and right does not.
    BallBox x = Texts.boxed("row ..;row #1;ball 0 0");
    x.press(1);
    x.press(2);
    Check.due("right, down", 1, x.would(0));
    x.press(-1);
    x.press(2);
    x.press(1);
    Check.due("down, right", 0, x.would(0));
    x.press(2);
    Check.due("down, right, down", 1, x.would(0));
  }

  static void promise13EighthWayCounts() {
    BallBox x = Texts.boxed("row .1;ball 0 0");
    for (int i = 0; i < 7; i++) {
      x.press(0);
    }
    Check.due("seven", 0, x.would(0));
    Check.due("the eighth", 8, x.press(1));
    Check.due("it brings it home", 1, x.would(0));
  }

  static void promise13NothingRolls() {
    BallBox x = Bases.rich();
    x.press(0);
    x.press(-1);
    x.press(1);
    x.press(2);
    Check.same("the same row again", Whole.of(Bases.rich()), Whole.of(x));
  }
}

/** Promise 32: image. */
public final class Promise32ImageTest {
  public static void main(String[] args) {
    Check.run(Promise32ImageTest.class);
  }

  static void promise32AnswersTheTipsThereWere() {
    BallBox x = Texts.boxed("row .");
    for (int k = 0; k <= 3; k++) {
      Check.due("image(" + k + ")", k, x.image(k));
      x.tip(0);
    }
    Check.due("image(0) again", 4, x.image(0));
  }

  static void promise32FirstAndLast() {
    BallBox x = Bases.rich();
    Check.due("image(0)", 1, x.image(0));
    Check.due("image(3)", 1, x.image(3));
    Check.due("back(3)", 1, x.back(3));
  }

  static void promise32OthersAreRefused() {
    int[] others = {-1, 4, Integer.MAX_VALUE, Integer.MIN_VALUE};
    for (int k : others) {
      Bases.leaves("image(" + k + ")", Bases::rich, -1, x -> x.image(k));
    }
  }

  static void promise32WithoutABox() {
    BallBox x = Bases.bare();
    Check.due("image(1)", 0, x.image(1));
    Check.due("back(1)", 0, x.back(1));
  }

  static void promise32LeavesAllButTheImage() {
    BallBox x = Bases.rich();
    x.back(2);
    x.image(2);
    BallBox y = Bases.rich();
    y.back(2);
    Check.same("made anew as it is", Whole.of(y), Whole.of(x));
  }

  static void promise32InPlaceOfTheOneThereWas() {
    BallBox x = Texts.boxed("row ...;ball 0 0");
    x.image(1);
    x.tip(1);
    Check.due("image(1)", 1, x.image(1));
    x.tip(3);
    Check.due("back(1)", 1, x.back(1));
    Check.due("x of ball 0", 2, x.ball(0, 0));
  }

  static void promise32EachByItself() {
    BallBox x = Texts.boxed("row ....;ball 0 0");
    for (int k = 0; k <= 3; k++) {
      x.put(0, k, 0);
      x.seed(k);
      x.image(k);
    }
    for (int k = 3; k >= 0; k--) {
      x.back(k);
      Check.due("x of ball 0 in " + k, k, x.ball(0, 0));
      Check.due("x in " + k, k, x.count(11));
    }
  }
}

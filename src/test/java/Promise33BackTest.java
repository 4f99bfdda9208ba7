/** Promise 33: back. */
public final class Promise33BackTest {
  public static void main(String[] args) {
    Check.run(Promise33BackTest.class);
  }

  /** All that an image holds is made another one. */
  private static void makeAllOther(BallBox x) {
    Texts.box(x, "row .#;row 1.;ball 0 0");
    x.tip(2);
    x.tip(1);
    x.press(3);
    x.sound(2, 0, 1);
    x.force(0);
    x.seed(123);
  }

  static void promise33AllIsAsInTheImage() {
    BallBox x = Bases.rich();
    x.image(3);
    makeAllOther(x);
    Check.due("back(3)", 1, x.back(3));
    Texts.tell(x, Bases.TAPE_BOX);
    BallBox y = Bases.rich();
    y.image(3);
    Check.same("gone back", Whole.of(y), Whole.of(x));
  }

  static void promise33AnswersTheTipsThereWere() {
    BallBox x = Texts.boxed("row ..;ball 0 0");
    x.tip(1);
    x.tip(3);
    x.image(0);
    x.tip(1);
    Check.due("back(0)", 2, x.back(0));
    Check.due("count(5)", 2, x.count(5));
  }

  static void promise33TheRuleInForceToo() {
    BallBox x = Texts.boxed("row ....;ball 0 0;ball 1 0");
    Texts.rule(x, "first ball");
    x.force(0);
    x.image(0);
    x.force(-1);
    Check.due("none in force", 2, x.may(1));
    x.back(0);
    Check.due("count(7)", 0, x.count(7));
    Check.due("by the rule", 1, x.may(1));
  }

  static void promise33NoneInForceToo() {
    BallBox x = Texts.boxed("row ....;ball 0 0;ball 1 0");
    x.image(0);
    Texts.rule(x, "first ball");
    x.force(0);
    x.back(0);
    Check.due("count(7)", -1, x.count(7));
    Check.due("the furthest first", 2, x.may(1));
  }

  static void promise33TheRulesStay() {
    BallBox x = Texts.boxed("row .");
    x.image(0);
    Texts.rule(x, "first ball");
    x.back(0);
    Check.due("count(6)", 1, x.count(6));
    Check.due("force(0)", -1, x.force(0));
  }

  static void promise33TheTapeStays() {
    BallBox x = Texts.boxed("row .");
    x.image(0);
    Texts.tell(x, "row ..#");
    x.back(0);
    Check.due("count(12)", 7, x.count(12));
    Check.due("box()", 0, x.box());
    Check.due("columns", 3, x.count(0));
  }

  static void promise33TheBookStays() {
    BallBox x = Texts.boxed("row .1;ball 0 0");
    x.image(0);
    x.book();
    x.back(0);
    Check.due("count(10)", 1, x.count(10));
    Check.due("pain(0)", 1, x.pain(0));
    Check.due("it is alike", -2, x.book());
  }

  static void promise33OtherImagesStay() {
    BallBox x = Texts.boxed("row ...;ball 0 0");
    x.image(0);
    x.put(0, 1, 0);
    x.image(1);
    x.put(0, 2, 0);
    x.back(0);
    Check.due("back(1)", 0, x.back(1));
    Check.due("x of ball 0", 1, x.ball(0, 0));
    Check.due("back(0)", 0, x.back(0));
    Check.due("x of ball 0", 0, x.ball(0, 0));
  }

  static void promise33TheImageStaysAsItWasMade() {
    BallBox x = Texts.boxed("row ...;ball 0 0");
    x.press(1);
    x.sound(1, 1, 0);
    x.image(2);
    x.back(2);
    x.tip(1);
    x.wall(0, 0, true);
    x.press(3);
    x.press(3);
    x.sound(2, 0, 0);
    x.seed(8);
    Check.due("back(2)", 0, x.back(2));
    int[] due = {3, 1, 1, 0, 0, 0, 0, -1, 1, 1, 0, 0, 0, 0};
    for (int what = 0; what < due.length; what++) {
      Check.due("count(" + what + ")", due[what], x.count(what));
    }
    Check.due("its row", 1, x.would(2));
    Check.due("its sounds", 2, x.fits(0));
  }

  static void promise33NeverMadeIsRefused() {
    Bases.leaves("back(1)", Bases::rich, -1, x -> x.back(1));
    Bases.leaves("back(3)", Bases::rich, -1, x -> x.back(3));
    for (int k = 0; k <= 3; k++) {
      int never = k;
      Bases.leaves("back(" + k + ")", Bases::fresh, -1, x -> x.back(never));
    }
  }

  static void promise33OthersAreRefused() {
    int[] others = {-1, 4, Integer.MAX_VALUE, Integer.MIN_VALUE};
    for (int k : others) {
      Bases.leaves("back(" + k + ")", Bases::full, -1, x -> x.back(k));
    }
  }

  static void promise33ToNoBox() {
    BallBox x = Bases.bare();
    x.image(0);
    makeAllOther(x);
    x.image(1);
    Check.due("back(0)", 0, x.back(0));
    Check.due("tip", -1, x.tip(1));
    Check.due("press", -2, x.press(1));
    Check.due("cell", -1, x.cell(0, 0, 0));
    int[] due = {0, 0, 0, 0, 0, 0, 2, 1, 0, 0, 0, 9, 0, 0};
    for (int what = 0; what < due.length; what++) {
      Check.due("count(" + what + ")", due[what], x.count(what));
    }
    Check.due("back to the box", 2, x.back(1));
    Check.due("columns", 2, x.count(0));
  }

  static void promise33ToABoxOfAnotherSize() {
    BallBox x = Texts.boxed("row ......;row ......;row .....1;ball 0 0");
    x.image(0);
    Texts.box(x, "row .");
    x.back(0);
    Check.due("columns", 6, x.count(0));
    Check.due("cell", 2, x.cell(5, 2, 0));
    Check.due("steps", 7, x.ball(0, 3));
  }

  static void promise33WhatWasReckonedIsReckonedAnewBehindAPut() {
    BallBox x = Texts.boxed("row ..1;row ...;ball 0 0");
    x.image(0);
    Check.due("fewest", 1, x.fewest());
    x.back(0);
    x.put(0, 0, 1);
    Check.due("fewest", 2, x.fewest());
  }

  static void promise33WhatWasReckonedIsReckonedAnew() {
    BallBox x = Texts.boxed("row ..1;row ...;ball 0 1");
    x.image(0);
    Texts.box(x, "row .#;ball 0 0");
    Check.due("fewest", -2, x.fewest());
    Check.due("hardest", -2, x.hardest(0));
    Check.due("blind", -2, x.blind(6, 0));
    Check.due("fits", 1, x.fits(0));
    Check.due("tells", 1, x.tells(1));
    Check.due("walled", -2, x.walled(2));
    Check.due("chipped", -2, x.chipped(2));
    x.back(0);
    Check.due("fewest", 2, x.fewest());
    Check.due("path", 0, x.path(0));
    Check.due("hardest", 2, x.hardest(0));
    Check.due("blind", 2, x.blind(6, 0));
    Check.due("fits", 5, x.fits(0));
    Check.due("tells", 2, x.tells(1));
    Check.due("walled", 2, x.walled(2));
    Check.due("chipped", -2, x.chipped(2));
  }
}

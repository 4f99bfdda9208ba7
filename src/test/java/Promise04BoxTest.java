/** Promise 4: box, what it answers and what it leaves; its language is in Promise04BoxTextTest. */
public final class Promise04BoxTest {
  public static void main(String[] args) {
    Check.run(Promise04BoxTest.class);
  }

  static void promise4AnswersHowManyBalls() {
    BallBox x = new BallBox();
    String balls = "";
    for (int i = 0; i <= 3; i++) {
      Check.due(i + " balls", i, Texts.box(x, "row ...;row ..." + balls));
      Check.due("count(2)", i, x.count(2));
      balls += ";ball " + i % 3 + " " + i / 3;
    }
  }

  static void promise4TapeIsEmptyThen() {
    BallBox x = new BallBox();
    Texts.tell(x, "row .;ball 0 0");
    Check.due("box()", 1, x.box());
    Check.due("count(12)", 0, x.count(12));
    Check.due("box() again", Texts.fault(0, 0), x.box());
  }

  static void promise4TapeIsEmptyBehindAFault() {
    BallBox x = new BallBox();
    Texts.tell(x, "row .;ball 0 1");
    Check.due("box()", Texts.fault(11, 5), x.box());
    Check.due("count(12)", 0, x.count(12));
  }

  static void promise4IsInPlaceOfTheOneThereWas() {
    BallBox x = Bases.rich();
    Check.due("box", 1, Texts.box(x, "row ..;ball 1 0"));
    int[] due = {2, 1, 1, 0, 0};
    for (int what = 0; what < due.length; what++) {
      Check.due("count(" + what + ")", due[what], x.count(what));
    }
    Check.due("walls", 0, x.count(13));
    Check.due("cell outside of the new one", -1, x.cell(2, 0, 0));
    Check.due("cell outside of the new one", -1, x.cell(0, 1, 0));
    Check.due("no ball 1", -1, x.ball(1, 2));
    Check.due("no hole of the old one", -1, x.ball(0, 3));
  }

  static void promise4ThereAreNoTips() {
    BallBox x = Bases.rich();
    Check.due("tips", 1, x.count(5));
    Texts.box(x, Bases.RICH_BOX);
    Check.due("no tips", 0, x.count(5));
  }

  static void promise4ThereIsNoRow() {
    BallBox x = Bases.rich();
    Check.due("row", 2, x.count(8));
    Texts.box(x, Bases.RICH_BOX);
    Check.due("no row", 0, x.count(8));
    Check.due("nothing rolls behind it", 0, x.would(2) + x.would(3));
    Check.due("the next way is the first one", 1, x.press(0));
  }

  static void promise4ThereAreNoSounds() {
    BallBox x = Bases.rich();
    Check.due("sounds", 2, x.count(9));
    Texts.box(x, Bases.RICH_BOX);
    Check.due("no sounds", 0, x.count(9));
    Check.due("all beginnings fit: 8 * 7 * 6", 336, x.fits(0));
    Check.due("the next sound is the first one", 1, x.sound(0, 0, 0));
  }

  static void promise4TheRuleInForceStays() {
    BallBox x = Bases.rich();
    Texts.box(x, "row ....;ball 0 0;ball 1 0");
    Check.due("count(7)", 1, x.count(7));
    Check.due("by the least x first: ball 0 is stopped", 1, x.may(1));
  }

  static void promise4XStays() {
    BallBox x = Bases.rich();
    Texts.box(x, "row .");
    Check.due("count(11)", 77, x.count(11));
  }

  static void promise4RulesBookAndImagesStay() {
    BallBox x = Bases.rich();
    Texts.box(x, "row .");
    Check.due("rules", 2, x.count(6));
    Check.due("boxes in the book", 1, x.count(10));
    Check.due("pain", 2, x.pain(0));
    Check.due("back", 1, x.back(2));
    Check.due("its columns", 4, x.count(0));
  }

  static void promise4AFaultLeavesAllButTheTape() {
    String[] faulty = {"", "row ..;row ..;ball 0 0;ball 1 1;ball 2 2", "row 12;row 3.;ball 1 1;x", "row #######", "ball 0 0"};
    for (String text : faulty) {
      BallBox x = Bases.rich();
      Check.due("a fault in " + text, true, Texts.box(x, text) < -2);
      BallBox y = Bases.rich();
      y.end(0);
      Check.same("behind " + text, Whole.of(y), Whole.of(x));
    }
  }

  static void promise4AFaultLeavesNoBoxIfThereWasNone() {
    BallBox x = Bases.bare();
    Check.due("a fault", Texts.fault(7, 0), Texts.box(x, "row ..;"));
    BallBox y = Bases.bare();
    y.end(0);
    Check.same("behind the fault", Whole.of(y), Whole.of(x));
  }

  static void promise4AFaultLeavesNothingInTheNextBox() {
    BallBox x = new BallBox();
    Check.due("a fault behind rows and balls", Texts.fault(33, 0), Texts.box(x, "row 123;row ###;row ...;ball 0 2;"));
    Check.due("a smaller box", 1, Texts.box(x, "row 1.;ball 1 0"));
    Check.due("columns", 2, x.count(0));
    Check.due("rows", 1, x.count(1));
    Check.due("walls", 0, x.count(13));
    Check.due("steps", 1, x.ball(0, 3));
    Check.due("outside", -1, x.cell(2, 0, 0));
  }

  static void promise4BallsThatFellLieAgain() {
    BallBox x = Bases.rich();
    Check.due("ball 0 was home", 1, x.ball(0, 2));
    Texts.box(x, Bases.RICH_BOX);
    Check.due("home", 0, x.count(3));
    Check.due("its x", 3, x.ball(0, 0));
  }

  static void promise4WhatWasReckonedIsReckonedAnew() {
    BallBox x = new BallBox();
    Texts.box(x, "row ..1;ball 0 0");
    Check.due("fewest", 1, x.fewest());
    Check.due("hardest", 1, x.hardest(0));
    Check.due("fits", 2, x.fits(0));
    Check.due("walled", -2, x.walled(2));
    Texts.box(x, "row ...;row #.1;ball 0 0");
    Check.due("fewest: right, down", 2, x.fewest());
    Check.due("hardest", 2, x.hardest(0));
    Check.due("fits", 4, x.fits(0));
    Check.due("walled", 3, x.walled(2));
  }
}

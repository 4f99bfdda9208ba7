/** Promise 28: pain. */
public final class Promise28PainTest {
  public static void main(String[] args) {
    Check.run(Promise28PainTest.class);
  }

  static void promise28FewestOfTheBox() {
    BallBox x = new BallBox();
    String[] boxes = {"row .", "row .1;ball 0 0", "row ..1;row ...;ball 0 1", "row 1..;row .#.;row ..2;ball 2 0;ball 0 2"};
    int[] due = {0, 1, 2, 2};
    for (int i = 0; i < boxes.length; i++) {
      Texts.box(x, boxes[i]);
      x.book();
    }
    for (int i = 0; i < boxes.length; i++) {
      Check.due("pain(" + i + ")", due[i], x.pain(i));
    }
  }

  static void promise28Never() {
    BallBox x = Texts.boxed("row .#1;ball 0 0");
    x.book();
    Check.due("pain(0)", -2, x.pain(0));
  }

  static void promise28Unknown() {
    BallBox x = Gadgets.told(
        "row .#....;row .....#;row ..##..;row #...#.;row .#...#;row ...#..;ball 1 5;ball 0 5;ball 1 2", "first ahead");
    Check.due("book", 0, x.book());
    Check.due("pain(0)", -3, x.pain(0));
  }

  static void promise28AsItWasReckonedWhenItCameIn() {
    BallBox x = Gadgets.never();
    x.book();
    Check.due("pain(0)", -2, x.pain(0));
    x.force(-1);
    Check.due("another rule", -2, x.pain(0));
    x.force(0);
    x.tip(0);
    Check.due("fewest by now", 4, x.fewest());
    Check.due("more tips", -2, x.pain(0));
    Texts.box(x, "row .");
    Check.due("another box", -2, x.pain(0));
  }

  static void promise28TipsForARuleAreThoseThereWere() {
    BallBox x = Gadgets.never();
    x.tip(0);
    x.book();
    Check.due("pain(0)", 4, x.pain(0));
  }

  static void promise28BehindFewestOfAnotherBox() {
    BallBox x = Texts.boxed("row .1;ball 0 0");
    Check.due("fewest", 1, x.fewest());
    Texts.box(x, "row .#1;ball 0 0");
    x.book();
    Check.due("pain(0)", -2, x.pain(0));
  }

  static void promise28LastBoxAndFirstThatIsNot() {
    BallBox x = Bases.full();
    Check.due("pain(7)", x.fewest(), x.pain(7));
    Check.due("pain(8)", -1, x.pain(8));
    BallBox y = Texts.boxed("row .");
    y.book();
    Check.due("pain(0)", 0, y.pain(0));
    Check.due("pain(1)", -1, y.pain(1));
    Check.due("pain(-1)", -1, y.pain(-1));
    Check.due("the greatest number", -1, y.pain(Integer.MAX_VALUE));
    Check.due("the least number", -1, y.pain(Integer.MIN_VALUE));
  }

  static void promise28OfAnEmptyBook() {
    Check.due("pain(0)", -1, new BallBox().pain(0));
    Check.due("pain(0)", -1, Texts.boxed("row .").pain(0));
  }

  static void promise28AlsoWithoutABoxNow() {
    BallBox x = new BallBox();
    x.image(0);
    Texts.box(x, "row .1;ball 0 0");
    x.book();
    x.back(0);
    Check.due("no box", 0, x.count(0));
    Check.due("pain(0)", 1, x.pain(0));
  }

  static void promise28ARefusedBoxChangesNone() {
    BallBox x = Texts.boxed("row 1..;ball 2 0");
    x.book();
    Texts.rule(x, "first ball");
    x.force(0);
    Check.due("alike", -2, x.book());
    Check.due("pain(0)", 1, x.pain(0));
    Check.due("pain(1)", -1, x.pain(1));
  }

  static void promise28NothingChanges() {
    Bases.leaves("pain(0)", Bases::rich, 2, x -> x.pain(0));
    Bases.leaves("pain(9)", Bases::rich, -1, x -> x.pain(9));
  }
}

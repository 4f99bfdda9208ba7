import java.util.function.Supplier;

/** Objects with which tests begin, and the test that a call leaves one of them as it was. */
final class Bases {
  /** Ball 0 is home by the one tip there was; right and down bring the others home. */
  static final String RICH_BOX = "row 1...;row .#..;row 2..3;ball 3 0;ball 0 1;ball 3 1";
  static final String TAPE_BOX = "row .#1;row .2.;ball 0 1";

  private Bases() {}

  interface Call {
    long on(BallBox x);
  }

  static BallBox fresh() {
    return new BallBox();
  }

  /** All but a box. */
  static BallBox bare() {
    BallBox x = new BallBox();
    Texts.rule(x, "first ball");
    Texts.rule(x, "first 0-ball");
    x.force(1);
    x.seed(9);
    Texts.tell(x, TAPE_BOX);
    return x;
  }

  /** Some of all there can be, with three balls. */
  static BallBox rich() {
    BallBox x = new BallBox();
    Texts.rule(x, "first ball");
    Texts.rule(x, "first 0-ball if tips>1;first x");
    x.force(1);
    Texts.box(x, RICH_BOX);
    x.image(0);
    x.tip(3);
    x.press(1);
    x.press(2);
    x.sound(3, 1, 1);
    x.sound(1, 1, 0);
    x.seed(77);
    x.book();
    x.image(2);
    x.wall(1, 2, true);
    Texts.tell(x, TAPE_BOX);
    return x;
  }

  /** Two balls, so that blind and hardest can be asked. */
  static BallBox pair() {
    BallBox x = new BallBox();
    Texts.rule(x, "first 1-ball");
    Texts.box(x, "row 2##;row ...;row #1#;ball 0 1;ball 1 1");
    x.force(0);
    x.press(1);
    x.sound(1, 1, 0);
    x.seed(5);
    Texts.tell(x, TAPE_BOX);
    return x;
  }

  /** As much as there can be: tape, rules, row, sounds, book and images are full. */
  static BallBox full() {
    BallBox x = new BallBox();
    for (int i = 0; i < 6; i++) {
      Texts.rule(x, i % 2 == 0 ? "first ball" : "first 0-ball");
    }
    x.force(5);
    String[] boxes = {"row #", "row .", "row ..", "row ...", "row .#", "row ##", "row 1", "row .1.;row ..#;ball 0 0;ball 1 1"};
    for (int i = 0; i < 8; i++) {
      Texts.box(x, boxes[i]);
      if (i == 7) {
        x.tip(3);
      }
      x.book();
    }
    for (int i = 0; i < 8; i++) {
      x.press(i % 4);
      x.sound(2, 0, 0);
    }
    for (int i = 0; i < 4; i++) {
      x.seed(10 + i);
      x.image(i);
    }
    x.seed(Integer.MAX_VALUE);
    Texts.tell(x, "row ..;row .#;ball" + " ".repeat(379) + "1 0");
    return x;
  }

  /** The call answers so, and all that can be heard is as without it. */
  static void leaves(String call, Supplier<BallBox> base, long due, Call c) {
    BallBox x = base.get();
    Check.due(call, due, c.on(x));
    Check.same("behind " + call, Whole.of(base.get()), Whole.of(x));
  }
}

/** Promise 14: would. */
public final class Promise14WouldTest {
  // Ball 0 is at the right above, ball 1 at the left below; left brings 0 home, right brings 1 home.
  private static final String CORNERS = "row 1..;row .#.;row ..2;ball 2 0;ball 0 2";

  public static void main(String[] args) {
    Check.run(Promise14WouldTest.class);
  }

  private static BallBox pressed(String box, int... ways) {
    BallBox x = Texts.boxed(box);
    for (int way : ways) {
      x.press(way);
    }
    return x;
  }

  private static void would(BallBox x, int home, int lost, int hits, int falls) {
    Check.due("home", home, x.would(0));
    Check.due("lost", lost, x.would(1));
    Check.due("hits", hits, x.would(2));
    Check.due("falls", falls, x.would(3));
  }

  static void promise14BehindAnEmptyRow() {
    would(pressed(CORNERS), 0, 0, 0, 0);
    BallBox x = Texts.boxed(CORNERS);
    x.tip(3);
    would(x, 1, 0, 0, 0);
    x.tip(0);
    would(x, 1, 1, 0, 0);
  }

  static void promise14BehindSomeTips() {
    would(pressed(CORNERS, 3), 1, 0, 0, 1);
    would(pressed(CORNERS, 3, 2), 1, 0, 0, 1);
    would(pressed(CORNERS, 3, 2, 1), 2, 0, 0, 2);
    would(pressed(CORNERS, 0), 0, 1, 0, 1);
    would(pressed(CORNERS, 0, 2), 0, 2, 0, 2);
  }

  static void promise14BehindAFullRow() {
    // To and fro: each tip is one hit.
    would(pressed("row ..;ball 0 0", 1, 3, 1, 3, 1, 3, 1, 3), 0, 0, 8, 0);
    would(pressed("row ..;row ..;row ..;ball 0 0;ball 0 1;ball 0 2", 1, 3, 1, 3, 1, 3, 1, 3), 0, 0, 24, 0);
  }

  static void promise14ThreeHomeAndThreeLost() {
    would(pressed("row .1;row .2;row .3;ball 0 0;ball 0 1;ball 0 2", 1), 3, 0, 0, 3);
    would(pressed("row .2;row .3;row .1;ball 0 0;ball 0 1;ball 0 2", 1), 0, 3, 0, 3);
  }

  static void promise14FromNowOn() {
    BallBox x = pressed("row ....;row ....;ball 0 0;ball 1 0", 1, 2, 2);
    would(x, 0, 0, 4, 0);
    x.tip(1);
    would(x, 0, 0, 2, 0);
  }

  static void promise14NothingChanges() {
    int[] due = {3, 0, 1, 2};
    for (int what = 0; what <= 3; what++) {
      int asked = what;
      Bases.leaves("would(" + what + ")", Bases::rich, due[what], x -> x.would(asked));
    }
  }

  static void promise14OtherWhats() {
    int[] others = {-1, 4, Integer.MAX_VALUE, Integer.MIN_VALUE};
    for (int what : others) {
      Bases.leaves("would(" + what + ")", Bases::rich, -1, x -> x.would(what));
    }
  }

  static void promise14WithoutABox() {
    for (int what = 0; what <= 3; what++) {
      int asked = what;
      Bases.leaves("would(" + what + ")", Bases::bare, -1, x -> x.would(asked));
    }
  }

  static void promise14TipsForARuleDoNotGrow() {
    BallBox x = Gadgets.turns();
    x.press(0);
    x.press(1);
    x.press(3);
    would(x, 2, 0, 2, 2);
  }

  static void promise14TipsForARuleAreThoseThereWere() {
    BallBox x = Gadgets.turns();
    x.tip(2);
    x.press(0);
    x.press(1);
    x.press(3);
    would(x, 1, 1, 2, 2);
  }
}

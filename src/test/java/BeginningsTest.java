/** Promises 18 and 21 to 25: blind, hardest, sound, fits, where, tells. */
public final class BeginningsTest {
  public static void main(String[] args) {
    blind();
    blindOfTwo();
    hardest();
    sound();
    fits();
    fallenOnesToo();
    tells();
    noBeginnings();
    Check.finish("beginnings");
  }

  private static void blind() {
    BallBox x = Texts.boxed("row ..1;row ...;ball 0 0");
    Check.due("n 1", -2, x.blind(1, 0));
    Check.due("n 1, its first way", -2, x.blind(1, 1));
    for (int n = 2; n <= 6; n++) {
      Check.due("n " + n, 2, x.blind(n, 0));
      Check.due("up", 0, x.blind(n, 1));
      Check.due("right", 1, x.blind(n, 2));
      Check.due("no third", -2, x.blind(n, 3));
      Check.due("no sixth", -2, x.blind(n, 6));
    }
    Check.due("n 0 again", -2, x.blind(0, 0));
    Check.due("n 7", -1, x.blind(7, 0));
    Check.due("n -1", -1, x.blind(-1, 0));
    Check.due("what 7", -1, x.blind(2, 7));
    Check.due("what -1", -1, x.blind(2, -1));
    Check.due("three balls", -1, Texts.boxed("row ...;ball 0 0;ball 1 0;ball 2 0").blind(2, 0));
    BallBox none = Texts.boxed("row .1");
    Check.due("no balls", 0, none.blind(0, 0));
    Check.due("no way", -2, none.blind(6, 1));
    x.wall(2, 1, true);
    Check.due("a wall put in: still up, right", 2, x.blind(6, 0));
    x.wall(1, 0, true);
    Check.due("another one", -2, x.blind(6, 0));
  }

  private static void blindOfTwo() {
    // Two that are alike but for their holes can't be told apart without a rule.
    BallBox x = Texts.boxed("row 2##;row ...;row #1#;ball 0 1;ball 1 1");
    Check.due("without a rule", -2, x.blind(6, 0));
    Texts.rule(x, "first 1-ball");
    x.force(0);
    Check.due("n 5", -2, x.blind(5, 0));
    Check.due("n 6", 6, x.blind(6, 0));
    int[] ways = {3, 1, 2, 3, 0, 2};
    for (int i = 0; i < 6; i++) {
      Check.due("its way " + i, ways[i], x.blind(6, i + 1));
    }
    Check.due("n 5 again", -2, x.blind(5, 1));
    for (int way : ways) {
      x.tip(way);
    }
    Check.due("it does it", 2, x.count(3));
    x.force(-1);
    Check.due("without the rule again", -2, x.blind(6, 0));
    BallBox y = Texts.boxed("row 1.2;ball 1 0");
    Check.due("one ball, one cell", 1, y.blind(1, 0));
    Check.due("left", 3, y.blind(1, 1));
  }

  private static void hardest() {
    BallBox x = Texts.boxed("row ..;row 1.;row 2.;ball 0 0;ball 1 1");
    Check.due("fewest", 6, x.hardest(0));
    Check.due("ball 0", 13, x.hardest(1));
    Check.due("ball 1", 0, x.hardest(2));
    Check.due("what 3", -1, x.hardest(3));
    Check.due("what -1", -1, x.hardest(-1));
    Check.due("three balls", -1, Texts.boxed("row ...;ball 0 0;ball 1 0;ball 2 0").hardest(0));
    BallBox y = Texts.boxed("row ..1;row ...;ball 0 0");
    Check.due("of several the first", 6, y.hardest(1));
    Check.due("without ball 1", -2, y.hardest(2));
    BallBox z = Texts.boxed("row ..;ball 0 0");
    Check.due("never is not asked", -2, z.hardest(0));
    Check.due("no cell then", -2, z.hardest(1));
    BallBox v = Texts.boxed("row .#.1;ball 0 0");
    Check.due("from the cells that can", 1, v.hardest(0));
    Check.due("the cell", 2, v.hardest(1));
    Check.due("no balls", 0, Texts.boxed("row .").hardest(0));
    wide();
  }

  /** Some 1200 beginnings, again and again. */
  private static void wide() {
    BallBox x = Texts.boxed("row ......;row ..#...;row ......;row ....1.;row .#....;row ....2.;ball 5 5;ball 0 0");
    int first = x.hardest(0);
    Oracle o = new Oracle();
    o.feed(Texts.packed("row ......;row ..#...;row ......;row ....1.;row .#....;row ....2.;ball 5 5;ball 0 0"));
    o.end(83);
    Check.due("the oracle's box", 2, o.box());
    for (int i = 0; i < 5; i++) {
      for (int what = 0; what < 3; what++) {
        Check.due("hardest " + what, o.hardest(what), x.hardest(what));
      }
      o.wall(i, 2, true);
      Check.due("wall", true, x.wall(i, 2, true));
    }
    Check.due("some tips", true, first > 3);
  }

  private static void sound() {
    BallBox x = new BallBox();
    Check.due("without a box", -2, x.sound(0, 0, 0));
    Check.due("none, without a box", 0, x.sound(-1, 9, 9));
    Texts.box(x, "row ..1;ball 0 0");
    int[][] wrong = {{4, 0, 0}, {-2, 0, 0}, {0, -1, 0}, {0, 0, -1}, {0, 4, 0}, {0, 0, 4}, {0, 2, 2}, {0, 1, 3}, {0, Integer.MAX_VALUE, Integer.MAX_VALUE}};
    for (int[] k : wrong) {
      Check.due("sound " + k[0] + " " + k[1] + " " + k[2], -2, x.sound(k[0], k[1], k[2]));
    }
    Check.due("count(9)", 0, x.count(9));
    for (int i = 1; i <= 8; i++) {
      Check.due("sound " + i, i, x.sound(i % 4, i % 4, 0));
    }
    Check.due("a ninth", -2, x.sound(0, 0, 0));
    Check.due("count(9)", 8, x.count(9));
    Check.due("none", 0, x.sound(-1, 0, 0));
    Check.due("count(9)", 0, x.count(9));
    Check.due("3 falls", 1, x.sound(0, 0, 3));
    Check.due("2 and 1", 2, x.sound(0, 2, 1));
  }

  private static void fits() {
    BallBox x = Texts.boxed("row ...;row ..1;ball 0 0;ball 1 0");
    Check.due("5 cells, two balls", 20, x.fits(0));
    Check.due("the first: ball 0", 0, x.fits(1));
    Check.due("the first: ball 1", 1, x.fits(2));
    Check.due("no ball 2", -2, x.fits(3));
    Check.due("what 4", -1, x.fits(4));
    Check.due("what -1", -1, x.fits(-1));
    Check.due("ball 0 anywhere", 0b011000111L & 7 | 3 << 6, x.where(0));
    Check.due("where 2", -1, x.where(2));
    Check.due("where -1", -1, x.where(-1));
    x.sound(1, 0, 2);
    // To the right, both fall: both in the lower row, in either order.
    Check.due("both below", 2, x.fits(0));
    Check.due("ball 0", 6, x.fits(1));
    Check.due("ball 1", 7, x.fits(2));
    Check.due("where 0", 3 << 6, x.where(0));
    Check.due("where 1", 3 << 6, x.where(1));
    x.sound(2, 0, 0);
    Check.due("nothing rolls then", 2, x.fits(0));
    x.sound(2, 1, 0);
    Check.due("this can't be", 0, x.fits(0));
    Check.due("no first", -2, x.fits(1));
    Check.due("no cells", 0, x.where(0));
    x.sound(-1, 0, 0);
    Check.due("without sounds", 20, x.fits(0));
    x.sound(0, 0, 0);
    Check.due("up: nothing rolls", 6 + 4, x.fits(0));
    BallBox walls = Texts.boxed("row #");
    Check.due("no balls, no plain cell: one beginning", 1, walls.fits(0));
    Check.due("it is all home", 0, walls.hardest(0));
    Check.due("by no tips", 0, walls.blind(0, 0));
  }

  private static void fallenOnesToo() {
    BallBox x = Texts.boxed("row ..1;ball 0 0");
    x.tip(1);
    Check.due("home", 1, x.count(3));
    Check.due("a ball that fell is laid anew", 2, x.fits(0));
    Check.due("hardest", 1, x.hardest(0));
    Check.due("blind", 1, x.blind(1, 0));
    BallBox y = Texts.boxed("row ......;row ......;row ......;row ......;row ......;row ......;ball 0 0;ball 1 0;ball 2 0");
    Check.due("36 * 35 * 34", 42840, y.fits(0));
    Check.due("all cells", (1L << 36) - 1, y.where(2));
    Check.due("first: ball 2", 2, y.fits(3));
  }

  private static void tells() {
    BallBox x = Texts.boxed("row ...;row ..1;ball 0 0");
    Check.due("what 2", -1, x.tells(2));
    Check.due("what -1", -1, x.tells(-1));
    // Up: 2 roll, 3 don't. Right: 2 fall, 2 roll, 1 does not. Down: 1 falls, 2 roll, 2 don't. Left: 2 and 3.
    Check.due("the way: the first of right and down", 1, x.tells(0));
    Check.due("how many at most", 2, x.tells(1));
    x.sound(1, 1, 0);
    Check.due("it lies above at the right: one fits", 2, x.fits(0));
    Check.due("any way: up", 0, x.tells(0));
    Check.due("both are alike", 2, x.tells(1));
    x.sound(0, 1, 0);
    Check.due("nothing fits", -2, x.tells(0));
    Check.due("nothing fits", -2, x.tells(1));
    BallBox none = Texts.boxed("row .");
    Check.due("no balls: one beginning", 1, none.tells(1));
    Check.due("no balls: up", 0, none.tells(0));
  }

  /** A ball that fell, and a wall upon each plain cell then. */
  private static void noBeginnings() {
    BallBox x = Texts.boxed("row .1;ball 0 0");
    x.tip(1);
    x.wall(0, 0, true);
    Check.due("none fits", 0, x.fits(0));
    Check.due("no first", -2, x.fits(1));
    Check.due("where", 0, x.where(0));
    Check.due("tells", -2, x.tells(0));
    Check.due("hardest", -2, x.hardest(0));
    Check.due("blind: there is none from which it does not", 0, x.blind(3, 0));
  }
}

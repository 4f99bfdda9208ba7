/** Promises 26 to 33: game, book, pain, seed, shaken, count, image, back. */
public final class TurnsTest {
  public static void main(String[] args) {
    game();
    book();
    bookIsFull();
    alikeTurnedAbout();
    whoFellIsNotInIt();
    seed();
    shaken();
    count();
    images();
    imageWithoutBox();
    Check.finish("turns");
  }

  private static void game() {
    BallBox x = Texts.boxed("row .12.;ball 0 0;ball 3 0");
    for (int n = 0; n <= 2; n++) {
      Check.due("n " + n, 0, x.game(n, 0));
      Check.due("its way", -2, x.game(n, 1));
    }
    for (int n = 3; n <= 8; n++) {
      Check.due("n " + n + ": right, whatever, left", 1, x.game(n, 0));
      // With five tips the first can do nothing at first, which is the lesser way.
      Check.due("its way", n < 5 ? 1 : 0, x.game(n, 1));
    }
    Check.due("n 9", -1, x.game(9, 0));
    Check.due("n -1", -1, x.game(-1, 0));
    Check.due("what 2", -1, x.game(3, 2));
    Check.due("what -1", -1, x.game(3, -1));
    Check.due("nothing happens", 0, x.count(5) + x.count(3));
    x.tip(1);
    Check.due("n 1", 1, x.game(1, 0));
    Check.due("left", 3, x.game(1, 1));
    x.tip(3);
    Check.due("all home", 1, x.game(0, 0));
    Check.due("no way", -1, x.game(0, 1));
    BallBox y = Texts.boxed("row .#;row ..;row 2.;row 1#;ball 1 1");
    Check.due("it is lost, or tipped to and fro", 0, y.game(8, 0));
    BallBox z = Texts.boxed("row #1#;row 2.#;row #3#;ball 1 1");
    Check.due("up at once", 1, z.game(1, 0));
    Check.due("its way", 0, z.game(8, 1));
    Check.due("left", 3, Texts.boxed("row 1.;ball 1 0").game(2, 1));
  }

  private static void book() {
    BallBox x = new BallBox();
    Check.due("without a box", -1, x.book());
    Texts.box(x, "row 1..;ball 2 0");
    Check.due("first", 0, x.book());
    Check.due("again", -2, x.book());
    Texts.box(x, "row 1..;ball 2 0");
    Check.due("told again", -2, x.book());
    Check.due("count(10)", 1, x.count(10));
    Check.due("pain", 1, x.pain(0));
    Check.due("pain -1", -1, x.pain(-1));
    Check.due("pain 1", -1, x.pain(1));
    x.put(0, 1, 0);
    Check.due("a ball elsewhere", 1, x.book());
    x.wall(2, 0, true);
    Check.due("a wall more", 2, x.book());
    x.wall(2, 0, false);
    x.put(0, 2, 0);
    x.wall(1, 0, true);
    Check.due("a wall between", 3, x.book());
    Check.due("pain: never", -2, x.pain(3));
    x.wall(1, 0, false);
    Check.due("as the first", -2, x.book());
    Check.due("pain stays as it was reckoned", 1, x.pain(0));
    BallBox y = Texts.boxed("row ...;row ...");
    Check.due("two rows", 0, y.book());
    Texts.box(y, "row ...");
    Check.due("one row less", 1, y.book());
    Texts.box(y, "row ..;row ..");
    Check.due("one column less", 2, y.book());
    Texts.box(y, "row ..;row ..;row ..");
    Check.due("as the first", -2, y.book());
    Texts.box(x, "row .");
    Check.due("the book stays", 4, x.count(10));
    Check.due("another box", 4, x.book());
  }

  private static void bookIsFull() {
    BallBox x = new BallBox();
    String[] boxes = {"row .", "row ..", "row ...", "row ....", "row .....", "row ......", "row #", "row ##"};
    for (int i = 0; i < 8; i++) {
      Texts.box(x, boxes[i]);
      Check.due("box " + i, i, x.book());
    }
    Texts.box(x, "row ###");
    Check.due("a ninth", -2, x.book());
    Check.due("count(10)", 8, x.count(10));
    Check.due("pain 7", 0, x.pain(7));
    Check.due("pain 8", -1, x.pain(8));
  }

  /** No two of these turns are the same picture; each is alike to the first. */
  private static void alikeTurnedAbout() {
    String[] turns = {
      "row 1.#;row ..2;ball 1 0;ball 0 1", "row #.1;row 2..;ball 1 0;ball 2 1",
      "row ..2;row 1.#;ball 1 1;ball 0 0", "row 2..;row #.1;ball 1 1;ball 2 0",
      "row 1.;row ..;row #2;ball 0 1;ball 1 0", "row .1;row ..;row 2#;ball 1 1;ball 0 0",
      "row #2;row ..;row 1.;ball 0 1;ball 1 2", "row 2#;row ..;row .1;ball 1 1;ball 0 2"
    };
    for (String in : turns) {
      BallBox x = Texts.boxed(in);
      Check.due("in the book", 0, x.book());
      for (String other : turns) {
        Texts.box(x, other);
        Check.due(in + " and " + other, -2, x.book());
      }
      Texts.box(x, "row 2.#;row ..1;ball 1 0;ball 0 1");
      Check.due("other holes", 1, x.book());
      Texts.box(x, "row 1.#;row ..2;ball 0 1;ball 1 0");
      Check.due("other balls", 2, x.book());
      Texts.box(x, "row 1.#;row ..2;ball 1 0");
      Check.due("a ball less", 3, x.book());
      Texts.box(x, "row 1.#;row ..3;ball 1 0;ball 0 1");
      Check.due("hole 3 in place of 2", 4, x.book());
    }
  }

  private static void whoFellIsNotInIt() {
    BallBox x = Texts.boxed("row .1;ball 0 0");
    x.tip(1);
    Check.due("with one that fell", 0, x.book());
    Check.due("its pain", 0, x.pain(0));
    Texts.box(x, "row 1.");
    Check.due("without balls", -2, x.book());
    Texts.box(x, "row .1;ball 0 0");
    Check.due("where it lies", 1, x.book());
  }

  private static void seed() {
    BallBox x = new BallBox();
    Check.due("seed(5)", 0, x.seed(5));
    Check.due("seed(-1)", -1, x.seed(-1));
    Check.due("seed(min)", -1, x.seed(Integer.MIN_VALUE));
    Check.due("seed(max)", 5, x.seed(Integer.MAX_VALUE));
    Check.due("count(11)", Integer.MAX_VALUE, x.count(11));
    Check.due("seed(0)", Integer.MAX_VALUE, x.seed(0));
  }

  private static void shaken() {
    BallBox x = Texts.boxed("row ...;row ...;row ...;ball 0 0");
    int[][] wrong = {{0, 1, 0}, {21, 1, 0}, {1, 0, 0}, {1, 61, 0}, {1, 1, 3}, {1, 1, -1}};
    for (int[] k : wrong) {
      Check.due("shaken " + k[0] + " " + k[1] + " " + k[2], -1, x.shaken(k[0], k[1], k[2]));
    }
    // Each way from one to four tips, by the draws worked out here once more.
    for (int seed : new int[] {0, 1, 12345, Integer.MAX_VALUE}) {
      x.seed(seed);
      BallBox y = Texts.boxed("row ...;row ...;row ...;ball 0 0");
      long z = seed;
      int hits = 0;
      for (int time = 0; time < 3; time++) {
        y.put(0, 1, 1);
        y.put(0, 0, 0);
        for (int tip = 0; tip < 4; tip++) {
          z = (z * 1103515245L + 12345L) % 2147483648L;
          hits += y.tip((int) (z / 65536 % 4));
        }
      }
      Check.due("hits from " + seed, hits, x.shaken(3, 4, 2));
      Check.due("home", 0, x.shaken(3, 4, 0));
      Check.due("x is as it was", seed, x.count(11));
      Check.due("tips are as they were", 0, x.count(5));
    }
    BallBox y = Texts.boxed("row #1#;row #.#;row ###;ball 1 1");
    y.seed(3);
    int home = y.shaken(20, 60, 0);
    Check.due("20 times 60 tips: home by the first tip up", 20, home);
    BallBox lost = Texts.boxed("row 3..;ball 1 0;ball 2 0");
    Check.due("all are lost at the end", 40, lost.shaken(20, 60, 1));
    Check.due("again", 40, lost.shaken(20, 60, 1));
    Check.due("home again", 20, y.shaken(20, 60, 0));
    Check.due("none home", 0, lost.shaken(20, 60, 0));
    BallBox none = Texts.boxed("row .");
    Check.due("no balls: all are home", 7, none.shaken(7, 1, 0));
  }

  private static void count() {
    BallBox x = Texts.boxed("row ...1;row #.2#;ball 0 0;ball 1 1");
    Texts.rule(x, "first ball");
    x.force(0);
    x.tip(1);
    x.press(2);
    x.sound(0, 0, 0);
    x.book();
    x.seed(9);
    x.feed(0, 0, 0, 0, 0);
    int[] due = {4, 2, 2, 2, 0, 1, 1, 0, 1, 1, 1, 9, 20, 2};
    for (int what = 0; what < due.length; what++) {
      Check.due("count(" + what + ")", due[what], x.count(what));
    }
    Check.due("count(14)", -1, x.count(14));
    Check.due("count(-1)", -1, x.count(-1));
  }

  private static void images() {
    BallBox x = Texts.boxed("row ....;ball 0 0;ball 1 0");
    Check.due("image -1", -1, x.image(-1));
    Check.due("image 4", -1, x.image(4));
    Check.due("back -1", -1, x.back(-1));
    Check.due("back 4", -1, x.back(4));
    Check.due("back, never made", -1, x.back(2));
    Texts.rule(x, "first ball");
    x.force(0);
    x.tip(1);
    x.press(1);
    x.press(2);
    x.sound(1, 1, 0);
    x.seed(4);
    x.wall(2, 0, true);
    Check.due("image 2", 1, x.image(2));
    Check.due("fewest", -2, x.fewest());
    Texts.rule(x, "first 0-ball");
    x.force(1);
    Texts.box(x, "row .1;ball 0 0");
    Check.due("fewest", 1, x.fewest());
    x.tip(1);
    x.tip(1);
    x.book();
    x.seed(5);
    x.feed(0, 0, 0, 0, 0);
    Check.due("image 3", 2, x.image(3));
    Check.due("back 2", 1, x.back(2));
    int[] due = {4, 1, 2, 0, 0, 1, 2, 0, 2, 1, 1, 4, 20, 1};
    for (int what = 0; what < due.length; what++) {
      Check.due("behind back count(" + what + ")", due[what], x.count(what));
    }
    Check.due("ball 0", 0, x.ball(0, 0));
    Check.due("ball 1", 3, x.ball(1, 0));
    Check.due("its row: ball 0 rolls to the wall", 1, x.would(2));
    Check.due("fewest is as it was", -2, x.fewest());
    Check.due("its sounds: right, one hit", 2, x.fits(0));
    Check.due("it is no more than a copy", 0, x.tip(2));
    x.wall(2, 0, false);
    Check.due("back again", 1, x.back(2));
    Check.due("its wall", 1, x.count(13));
    Check.due("back 3", 2, x.back(3));
    Check.due("home", 1, x.count(3));
    Check.due("rule in force", 1, x.count(7));
    Check.due("made anew", 2, x.image(2));
    x.tip(0);
    Check.due("back to the new one", 2, x.back(2));
    Check.due("its columns", 2, x.count(0));
  }

  private static void imageWithoutBox() {
    BallBox x = new BallBox();
    x.seed(8);
    Check.due("without a box", 0, x.image(0));
    Texts.box(x, "row .1;ball 0 0");
    x.press(1);
    x.tip(1);
    Check.due("back", 0, x.back(0));
    Check.due("no box", -1, x.tip(1));
    Check.due("no box", -1, x.fewest());
    Check.due("no box", -1, x.cell(0, 0, 0));
    Check.due("no row", 0, x.count(8));
    Check.due("no columns", 0, x.count(0));
    Check.due("x", 8, x.count(11));
  }
}

/** Promises 13 to 17, 19 and 20: the row, how sure it is, fewest tips, the path, walls chipped and put in. */
public final class RowTest {
  // Ball 0 is at the right above, ball 1 at the left below; left brings 0 home, right brings 1 home.
  private static final String CORNERS = "row 1..;row .#.;row ..2;ball 2 0;ball 0 2";
  // More situations than 4000 come one from another, by this rule.
  private static final String WIDE = "row .#....;row .....#;row ..##..;row #...#.;row .#...#;row ...#..;ball 1 5;ball 0 5;ball 1 2";

  public static void main(String[] args) {
    press();
    would();
    sure();
    tipsDoNotGrow();
    fewest();
    unknown();
    chipped();
    walled();
    Check.finish("row");
  }

  private static void press() {
    BallBox x = new BallBox();
    Check.due("without a box", -2, x.press(0));
    Check.due("NONE without a box", 0, x.press(-1));
    Texts.box(x, CORNERS);
    Check.due("press(4)", -2, x.press(4));
    Check.due("press(-2)", -2, x.press(-2));
    for (int i = 1; i <= 8; i++) {
      Check.due("press " + i, i, x.press(i % 4));
    }
    Check.due("a ninth", -2, x.press(0));
    Check.due("count(8)", 8, x.count(8));
    Check.due("NONE", 0, x.press(-1));
    Check.due("count(8)", 0, x.count(8));
    Check.due("anew", 1, x.press(0));
  }

  private static void would() {
    BallBox x = Texts.boxed(CORNERS);
    Check.due("what -1", -1, x.would(-1));
    Check.due("what 4", -1, x.would(4));
    would(x, "no row", 0, 0, 0, 0);
    x.press(3);
    would(x, "left", 1, 0, 0, 1);
    x.press(2);
    would(x, "left, down", 1, 0, 0, 1);
    x.press(1);
    would(x, "left, down, right", 2, 0, 0, 2);
    x.press(-1);
    x.press(0);
    would(x, "up: ball 1 is lost", 0, 1, 0, 1);
    x.press(2);
    would(x, "up, down: both are lost", 0, 2, 0, 2);
    Check.due("nothing happens", 0, x.count(5) + x.count(3) + x.count(4));
    BallBox y = Texts.boxed("row ....;row ....;ball 0 0;ball 1 0");
    y.press(1);
    y.press(2);
    y.press(2);
    would(y, "hits together", 0, 0, 4, 0);
    y.tip(1);
    would(y, "from now on", 0, 0, 2, 0);
    y.put(0, 0, 0);
    y.tip(3);
    Check.due("behind a ball home", 2, y.count(2));
  }

  private static void would(BallBox x, String name, int home, int lost, int hits, int falls) {
    Check.due(name + ": home", home, x.would(0));
    Check.due(name + ": lost", lost, x.would(1));
    Check.due(name + ": hits", hits, x.would(2));
    Check.due(name + ": falls", falls, x.would(3));
  }

  private static void sure(BallBox x, int p, long above, long below) {
    Check.due("sure above, p " + p, above, x.sure(p, 0));
    Check.due("sure below, p " + p, below, x.sure(p, 1));
  }

  private static void sure() {
    BallBox x = Texts.boxed(CORNERS);
    Check.due("p -1", -1, x.sure(-1, 0));
    Check.due("p 101", -1, x.sure(101, 0));
    Check.due("part 2", -1, x.sure(50, 2));
    Check.due("part -1", -1, x.sure(50, -1));
    sure(x, 50, 0, 1);
    x.press(1);
    x.press(3);
    sure(x, 50, 1, 4);
    sure(x, 0, 1, 1);
    sure(x, 100, 0, 1);
    sure(x, 20, 16, 25);
    sure(x, 99, 1, 10000);
    x.press(1);
    sure(x, 50, 3, 8);
    sure(x, 30, 637, 1000);
    x.press(3);
    x.press(1);
    x.press(3);
    x.press(1);
    x.press(3);
    // Each of both ways four times: (1 - p^4)^2.
    sure(x, 1, 99999999L * 99999999L, 10000000000000000L);
    sure(x, 50, 225, 256);
    x.tip(1);
    x.tip(3);
    Check.due("all home", 2, x.count(3));
    sure(x, 100, 1, 1);
    sure(x, 37, 1, 1);
  }

  /** In what is asked tips is as it is now: the rule lets ball 1 go first if there were no tips. */
  private static void tipsDoNotGrow() {
    BallBox x = Texts.boxed("row .....;ball 0 0;ball 1 0");
    Texts.rule(x, "first 1-ball if tips=0;first ball");
    x.force(0);
    x.press(3);
    x.press(1);
    Check.due("left, right: both roll", 2, x.would(2));
    x.tip(3);
    Check.due("behind a tip ball 0 is first, and stopped", 1, x.would(2));
    Check.due("a real tip", 1, x.tip(1));
    BallBox y = Texts.boxed("row ...21;ball 0 0;ball 1 0");
    Texts.rule(y, "first ball if tips=0;first 1-ball");
    y.force(0);
    // Ball 0 always first: it is stopped, ball 1 comes home, then ball 0 is lost.
    Check.due("by no tips", -2, y.fewest());
    y.press(1);
    Check.due("lost", 0, y.would(1));
    y.tip(3);
    Check.due("now ball 1 is first: 1 home, 0 lost", 1, y.would(1));
  }

  private static void fewest() {
    BallBox x = Texts.boxed(CORNERS);
    Check.due("fewest", 2, x.fewest());
    Check.due("path 0", 1, x.path(0));
    Check.due("path 1", 3, x.path(1));
    Check.due("path 2", -2, x.path(2));
    Check.due("path -1", -1, x.path(-1));
    Check.due("path max", -2, x.path(Integer.MAX_VALUE));
    x.tip(1);
    Check.due("behind one", 1, x.fewest());
    Check.due("path 0", 3, x.path(0));
    x.tip(3);
    Check.due("all home", 0, x.fewest());
    Check.due("path 0", -2, x.path(0));
    x.put(0, 2, 0);
    x.tip(2);
    Check.due("lost", -2, x.fewest());
    Check.due("path of never", -2, x.path(0));
    BallBox up = Texts.boxed("row ..1;row ...;ball 0 1");
    Check.due("up, right", 2, up.fewest());
    Check.due("up", 0, up.path(0));
    Check.due("right", 1, up.path(1));
    BallBox y = Texts.boxed("row 1.#.;ball 3 0");
    Check.due("never", -2, y.fewest());
    y.wall(2, 0, false);
    Check.due("chipped away", 1, y.fewest());
    Check.due("path", 3, y.path(0));
    BallBox z = Texts.boxed("row ..1;ball 0 0;ball 1 0");
    Check.due("ball 1 has no hole, right: it is lost", -2, z.fewest());
    // What was reckoned is not kept beyond force.
    BallBox v = Texts.boxed("row 2..1;ball 1 0;ball 2 0");
    Check.due("each falls into the other one's", -2, v.fewest());
    BallBox w = Texts.boxed("row .2..;row ...1;ball 0 0;ball 3 0");
    int before = w.fewest();
    Texts.rule(w, "first ball");
    w.force(0);
    int by = w.fewest();
    w.force(-1);
    Check.due("as before the rule", before, w.fewest());
    Check.due("down, right and left", 3, before);
    Check.due("by the rule", 3, by);
  }

  private static void unknown() {
    BallBox x = Texts.boxed(WIDE);
    Check.due("without the rule: never", -2, x.fewest());
    Texts.rule(x, "first ahead");
    x.force(0);
    Check.due("unknown", -3, x.fewest());
    Check.due("path", -3, x.path(0));
    Check.due("path -1", -1, x.path(-1));
    Check.due("chipped", -2, x.chipped(2));
    Check.due("walled", -2, x.walled(2));
    Check.due("book", 0, x.book());
    Check.due("pain", -3, x.pain(0));
    String grid = "row #...#.;row .#....;row #..#..;row ..#..#;row ...#..;row .#..#.";
    Texts.box(x, grid + ";ball 1 2;ball 1 3;ball 5 0");
    Check.due("just 4000", -2, x.fewest());
    Texts.box(x, grid + ";ball 4 3;ball 2 1;ball 3 1");
    Check.due("just 4001", -3, x.fewest());
    Texts.box(x, "row .1..#.;row .#....;row #..#..;row ..#..#;row ...#..;row .#..#3;ball 2 1;ball 2 4;ball 2 2");
    Check.due("above 4000 with those that do not come", -2, x.fewest());
  }

  private static void chipped() {
    BallBox x = Texts.boxed("row 1#;row .#;row .#;row 2.;ball 0 2;ball 0 1");
    Check.due("never", -2, x.fewest());
    Check.due("x", 1, x.chipped(0));
    Check.due("y", 1, x.chipped(1));
    Check.due("fewest then", 4, x.chipped(2));
    Check.due("what 3", -1, x.chipped(3));
    Check.due("what -1", -1, x.chipped(-1));
    Check.due("nothing happens", 3, x.count(13));
    BallBox y = Texts.boxed("row #1#.#;ball 3 0");
    Check.due("the one between", 2, y.chipped(0));
    Check.due("fewest then", 1, y.chipped(2));
    y.put(0, 0, 0);
    y.wall(2, 0, false);
    y.wall(3, 0, true);
    Check.due("nobody moved", 3, y.ball(0, 0));
    BallBox z = Texts.boxed("row ##.1;ball 2 0");
    Check.due("of several the first", 0, z.chipped(0));
    Check.due("fewest then", 1, z.chipped(2));
    z.tip(1);
    Check.due("all home", 0, z.chipped(2));
    BallBox v = Texts.boxed("row 1#.;row 2..;ball 2 0");
    v.tip(3);
    v.tip(2);
    v.tip(3);
    Check.due("lost", -2, v.chipped(0));
    Check.due("no wall", -2, Texts.boxed("row .1;ball 0 0").chipped(0));
  }

  private static void walled() {
    BallBox x = Texts.boxed("row 2...;row .1..;row ....;ball 2 0;ball 1 2");
    Check.due("fewest", 3, x.fewest());
    Check.due("x", 0, x.walled(0));
    Check.due("y", 1, x.walled(1));
    Check.due("fewest then", 6, x.walled(2));
    Check.due("what 3", -1, x.walled(3));
    Check.due("what -1", -1, x.walled(-1));
    Check.due("nothing happens", 0, x.count(13));
    Check.due("no cell", -2, Texts.boxed("row .1;ball 0 0").walled(0));
    BallBox y = Texts.boxed("row ..1;ball 0 0");
    Check.due("a wall between: never is not asked", -2, y.walled(2));
    y.put(0, 1, 0);
    Check.due("behind it", 1, y.walled(2));
    Check.due("x", 0, y.walled(0));
    y.tip(1);
    Check.due("all home: the first", 0, y.walled(0));
    Check.due("all home", 0, y.walled(2));
  }
}

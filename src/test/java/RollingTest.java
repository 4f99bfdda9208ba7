/** Promises 6 to 12 and what rules mean: force, cell, ball, put, wall, tip, may. */
public final class RollingTest {
  private static final String LINE = "row .....;row ..1..;ball 0 0;ball 1 0";

  public static void main(String[] args) {
    force();
    cells();
    balls();
    put();
    wall();
    tip();
    holes();
    ordersWithoutRule();
    words();
    reckoning();
    clauses();
    keysAheadOfTip();
    Check.finish("rolling");
  }

  private static void force() {
    BallBox x = new BallBox();
    Check.due("force(-2)", -2, x.force(-2));
    Check.due("force(0) without rules", -2, x.force(0));
    Texts.rule(x, "first ball");
    Texts.rule(x, "first 0-ball");
    Check.due("force(1)", -1, x.force(1));
    Check.due("force(2)", -2, x.force(2));
    Check.due("count(7)", 1, x.count(7));
    Check.due("force(0)", 1, x.force(0));
    Check.due("force(-1)", 0, x.force(-1));
    Check.due("count(7)", -1, x.count(7));
    Check.due("force(max)", -2, x.force(Integer.MAX_VALUE));
    Check.due("force(min)", -2, x.force(Integer.MIN_VALUE));
  }

  private static void cells() {
    BallBox x = Texts.boxed("row .#1;row 2.3;ball 1 1");
    int[] kinds = {0, 1, 2, 3, 0, 4};
    for (int i = 0; i < 6; i++) {
      Check.due("cell kind " + i, kinds[i], x.cell(i % 3, i / 3, 0));
      Check.due("who lies " + i, i == 4 ? 0 : -1, x.cell(i % 3, i / 3, 1));
    }
    int[][] wrong = {{-1, 0, 0}, {0, -1, 0}, {3, 0, 0}, {0, 2, 0}, {0, 0, 2}, {0, 0, -1}, {1, 1, -1}, {1, 1, 2}, {6, 0, 0}, {0, 6, 0}, {Integer.MAX_VALUE, 0, 0}, {0, Integer.MIN_VALUE, 1}};
    for (int[] k : wrong) {
      Check.due("cell " + k[0] + " " + k[1] + " " + k[2], -1, x.cell(k[0], k[1], k[2]));
    }
  }

  private static void balls() {
    BallBox x = Texts.boxed("row 1..2;row ....;ball 3 1;ball 1 1;ball 2 1");
    Check.due("x", 3, x.ball(0, 0));
    Check.due("y", 1, x.ball(0, 1));
    Check.due("in the box", 0, x.ball(0, 2));
    Check.due("steps", 4, x.ball(0, 3));
    Check.due("steps", 3, x.ball(1, 3));
    Check.due("no hole", -1, x.ball(2, 3));
    Check.due("what 4", -1, x.ball(0, 4));
    Check.due("what -1", -1, x.ball(0, -1));
    Check.due("ball 3", -1, x.ball(3, 0));
    Check.due("ball 3", -1, x.ball(3, 2));
    Check.due("of two, ball 2", -1, Texts.boxed("row ..;ball 0 0;ball 1 0").ball(2, 2));
    Check.due("steps, up and to the right", 3, Texts.boxed("row ...;row ..1;row ...;row ...;ball 1 3").ball(0, 3));
    Check.due("steps, down and to the left", 3, Texts.boxed("row ...;row ...;row ...;row 1..;ball 1 1").ball(0, 3));
    Check.due("ball -1", -1, x.ball(-1, 0));
    Check.due("up", 12, x.tip(0));
    Check.due("ball 0 in hole 2: lost", 2, x.ball(0, 2));
    Check.due("its x", -1, x.ball(0, 0));
    Check.due("its y", -1, x.ball(0, 1));
    Check.due("its steps", -1, x.ball(0, 3));
    Check.due("count LOST", 1, x.count(4));
    Check.due("right", 20, x.tip(1));
    Check.due("ball 2 in hole 2: lost", 2, x.ball(2, 2));
    Check.due("ball 1 is home", 1, x.ball(1, 2));
    Check.due("HOME", 1, x.count(3));
    Check.due("LOST", 2, x.count(4));
    Check.due("TIPS", 2, x.count(5));
    Check.due("nobody rolls", 0, x.tip(1));
    Check.due("TIPS", 3, x.count(5));
  }

  private static void put() {
    BallBox x = Texts.boxed("row 1.#.;ball 1 0;ball 3 0");
    Check.due("upon itself", false, x.put(0, 1, 0));
    Check.due("upon another one", false, x.put(0, 3, 0));
    Check.due("upon a wall", false, x.put(0, 2, 0));
    Check.due("upon a hole", false, x.put(0, 0, 0));
    Check.due("outside", false, x.put(0, 4, 0));
    Check.due("outside", false, x.put(0, 0, 1));
    Check.due("outside", false, x.put(0, -1, 0));
    Check.due("no such ball", false, x.put(2, 1, 0));
    Check.due("no such ball", false, x.put(-1, 1, 0));
    Check.due("left", 10, x.tip(3));
    Check.due("home", 1, x.count(3));
    Check.due("no such ball upon a bare cell", false, x.put(2, 1, 0));
    Check.due("no such ball upon a bare cell", false, x.put(-1, 1, 0));
    Check.due("one that lies put", true, x.put(1, 1, 0));
    Check.due("one that fell put", true, x.put(0, 3, 0));
    Check.due("home", 0, x.count(3));
    Check.due("its x", 3, x.ball(0, 0));
    Check.due("who lies", 1, x.cell(1, 0, 1));
    Check.due("tips stay", 1, x.count(5));
  }

  private static void wall() {
    BallBox x = Texts.boxed("row 1.#.;ball 1 0");
    Check.due("upon a ball", false, x.wall(1, 0, true));
    Check.due("upon a hole", false, x.wall(0, 0, true));
    Check.due("is so", false, x.wall(2, 0, true));
    Check.due("outside", false, x.wall(4, 0, true));
    Check.due("outside", false, x.wall(0, 1, true));
    Check.due("outside", false, x.wall(-1, 0, false));
    Check.due("a hole is not chipped", false, x.wall(0, 0, false));
    Check.due("plain already", false, x.wall(3, 0, false));
    Check.due("put in", true, x.wall(3, 0, true));
    Check.due("walls", 2, x.count(13));
    Check.due("chipped", true, x.wall(2, 0, false));
    Check.due("walls", 1, x.count(13));
    Check.due("kind", 0, x.cell(2, 0, 0));
    Check.due("kind", 1, x.cell(3, 0, 0));
    Check.due("rolls to the new wall", 1, x.tip(1));
    Check.due("x", 2, x.ball(0, 0));
  }

  private static void tip() {
    BallBox x = Texts.boxed("row ...;row .#.;row ...;ball 0 0");
    Check.due("way -1", -1, x.tip(-1));
    Check.due("way 4", -1, x.tip(4));
    Check.due("may -1", -1, x.may(-1));
    Check.due("may 4", -1, x.may(4));
    Check.due("tips", 0, x.count(5));
    int[] ways = {1, 2, 3, 0};
    int[] cells = {2, 22, 20, 0};
    for (int i = 0; i < 4; i++) {
      Check.due("may " + ways[i], 1, x.may(ways[i]));
      Check.due("tips", i, x.count(5));
      Check.due("tip " + ways[i], 1, x.tip(ways[i]));
      Check.due("cell", cells[i], 10 * x.ball(0, 1) + x.ball(0, 0));
      Check.due("again", 0, x.may(ways[i]));
    }
    BallBox empty = Texts.boxed("row .");
    Check.due("no balls", 0, empty.tip(0));
    Check.due("it is a tip", 1, empty.count(5));
  }

  private static void holes() {
    BallBox x = Texts.boxed("row ..1.2.;ball 0 0;ball 5 0");
    Check.due("right: ball 1 is at the end, ball 0 falls", 10, x.may(1));
    Check.due("left: ball 0 is at the end, ball 1 falls", 10, x.tip(3));
    Check.due("its own hole", 1, x.ball(1, 2));
    Check.due("right: it falls at once, it does not roll on", 10, x.tip(1));
    Check.due("its own hole", 1, x.ball(0, 2));
    BallBox y = Texts.boxed("row .2.;row ...;ball 0 0;ball 2 1");
    Check.due("right and left, each by itself", 11, y.may(1) + y.may(3));
    Check.due("right: into another one's", 10, y.tip(1));
    Check.due("lost", 2, y.ball(0, 2));
    Check.due("a ball that fell stops nobody", 1, y.tip(3));
    Check.due("at the end", 0, y.ball(1, 0));
    Check.due("up", 1, y.tip(0));
    Check.due("right, into its own", 10, y.tip(1));
    Check.due("home", 1, y.ball(1, 2));
  }

  private static void ordersWithoutRule() {
    BallBox x = Texts.boxed("row ......;ball 0 0;ball 1 0;ball 2 0");
    Check.due("right: the furthest first", 3, x.tip(1));
    Check.due("ball 2", 5, x.ball(2, 0));
    Check.due("ball 1", 4, x.ball(1, 0));
    Check.due("ball 0", 3, x.ball(0, 0));
    Check.due("left", 3, x.tip(3));
    Check.due("ball 0", 0, x.ball(0, 0));
    Check.due("ball 2", 2, x.ball(2, 0));
    BallBox y = Texts.boxed("row .;row .;row .;row .;ball 0 1;ball 0 0");
    Check.due("down", 2, y.tip(2));
    Check.due("ball 0", 3, y.ball(0, 1));
    Check.due("ball 1", 2, y.ball(1, 1));
    Check.due("up", 2, y.tip(0));
    Check.due("ball 1", 0, y.ball(1, 1));
    Check.due("ball 0", 1, y.ball(0, 1));
  }

  /** Whether the test holds of ball 0 or 1 ahead of a tip to the right: then ball 1 rolls first, and both roll. */
  private static boolean holds(BallBox x, int ball, String test) {
    String text = ball == 0 ? "first 1 if ball=0 and [" + test + "]" : "first 0-1 if ball=1 and [" + test + "]";
    int rule = Texts.rule(x, text);
    if (rule < 0) {
      throw new IllegalStateException(text);
    }
    x.force(rule);
    int told = x.may(1);
    return told % 10 + told / 10 == 2;
  }

  private static void isSo(String box, int ball, String test, boolean so) {
    Check.due("ball " + ball + ": " + test, so, holds(Texts.boxed(box), ball, test));
  }

  private static void words() {
    isSo(LINE, 0, "ball=0", true);
    isSo(LINE, 1, "ball=1", true);
    isSo(LINE, 1, "x=1", true);
    isSo(LINE, 0, "x=0 and y=0", true);
    isSo(LINE, 0, "ahead=0", true);
    isSo(LINE, 1, "ahead=3", true);
    isSo(LINE, 0, "way=1", true);
    isSo(LINE, 0, "tips=0 and home=0", true);
    isSo(LINE, 0, "steps=3", true);
    isSo(LINE, 1, "steps=0", true);
    isSo("row .....;row .....;row .....;ball 0 2;ball 1 2", 1, "y=2", true);
    // The hole is one of the cells by which it rolls; cells behind it are not.
    isSo("row ...1.;ball 0 0;ball 1 0", 1, "ahead=2", true);
    BallBox x = Texts.boxed("row .....;row .3...;ball 0 0;ball 1 0;ball 0 1");
    x.tip(1);
    x.put(0, 0, 0);
    x.put(1, 1, 0);
    Check.due("home", 1, x.count(3));
    Check.due("tips=1 and home=1", true, holds(x, 0, "tips=1 and home=1"));
    x.tip(0);
    x.put(2, 4, 1);
    Check.due("tips=2 and home=0", true, holds(x, 1, "tips=2 and home=0"));
  }

  private static void reckoning() {
    String[] so = {
      "1+2*3=7", "7-2-1=4", "12/2/3=2", "12/4*3=9", "17%5*2=4", "7/2=3", "0-7/2=0-3", "5/0=0", "5%0=0", "1-5/0=1",
      "99999=99999", "00012=12", "1<2", "1<=1", "2>=2", "3>2", "1=1", "1=2 or 2=2 and 3=3", "1=1 or 1=1 and 1=2",
      "not 1=2", "not not 1=1", "not [1=1 and 1=2]", "not 1=2 and 1=1", "[1=1 or 1=1] and 2=2", "1=2 or 1=3 or 1=1",
      "32768*32768*32768*32768*8<0", "32768*32768*32768*32768*8%3=0-2", "32768*32768*32768*32768*16=0",
      "32768*32768*32768*32768*8/2=0-32768*32768*32768*32768*4", "32768*32768*32768*32768*8-1>0"
    };
    String[] notSo = {
      "2<1", "1<1", "2<=1", "1>=2", "2>2", "1=2", "not 1=1", "[1=1 or 1=1] and 1=2", "1=1 and 1=2 or 1=3",
      "not 1=1 or 1=2", "not 1=2 and 1=2", "0-1>0", "5/0=5", "5%0=5"
    };
    for (String test : so) {
      isSo(LINE, 0, test, true);
    }
    for (String test : notSo) {
      isSo(LINE, 0, test, false);
    }
  }

  private static int mayBy(String rule) {
    BallBox x = Texts.boxed(LINE);
    Texts.rule(x, rule);
    x.force(0);
    return x.may(1);
  }

  private static void clauses() {
    Check.due("ball 1 first", 2, mayBy("first 1-ball"));
    Check.due("ball 0 first", 1, mayBy("first ball"));
    Check.due("alike: by their numbers", 1, mayBy("first 7"));
    Check.due("below 0", 2, mayBy("first 0-ball"));
    Check.due("not", 1, mayBy("first 0-ball if not 1=1"));
    Check.due("not, twice", 2, mayBy("first 0-ball if not not 1=1"));
    Check.due("the first without a test", 2, mayBy("first 1-ball;first ball"));
    Check.due("the first that holds", 2, mayBy("first ball if 1=2;first 1-ball if 1=1;first ball"));
    Check.due("none holds", 1, mayBy("first 0-ball if 1=2"));
    Check.due("0 if none holds", 2, mayBy("first 1 if ball=0"));
    Check.due("each ball by its own clause", 2, mayBy("first 5 if x=0;first 4"));
    Check.due("a great sum", 2, mayBy("first 99999*99999-ball*99999*99999"));
  }

  private static void keysAheadOfTip() {
    // Ball 1 can roll 3 cells, ball 0 none as they lie now: by ahead, ball 0 is first though it can't roll.
    Check.due("ahead as all lie ahead of the tip", 1, mayBy("first ahead"));
    Check.due("most ahead first", 2, mayBy("first 0-ahead"));
    BallBox x = Texts.boxed("row 1.....;ball 5 0;ball 4 0;ball 3 0");
    Texts.rule(x, "first 2-ball");
    x.force(0);
    Check.due("left: 2 falls, then 1, then 0", 30, x.tip(3));
    Check.due("ball 0 home", 1, x.ball(0, 2));
    Check.due("ball 1 lost", 2, x.ball(1, 2));
    Check.due("ball 2 lost", 2, x.ball(2, 2));
    BallBox y = Texts.boxed("row 1.....;ball 5 0;ball 4 0;ball 3 0");
    Texts.rule(y, "first ball");
    y.force(0);
    Check.due("0 and 1 are stopped, 2 falls", 10, y.tip(3));
    Check.due("then 0 is stopped, 1 falls", 10, y.tip(3));
    Check.due("then 0 is home", 10, y.tip(3));
    Check.due("home", 1, y.ball(0, 2));
  }
}

import java.util.Random;

/** Drawn runs of calls (always the same ones), each answer beside that of the plain oracle. */
public final class OracleTest {
  // An object is used for at most 512 calls; what later ones answer is free.
  private static final int MOST_CALLS = 512;
  private static int wrong;
  private static int calls;
  private static int callsOfRun;

  public static void main(String[] args) {
    int runs = args.length > 1 ? Integer.parseInt(args[1]) : 1500;
    long seed = args.length > 2 ? Long.parseLong(args[2]) : 20261118L;
    for (int run = 0; run < runs && wrong < 20; run++) {
      oneRun(new Random(seed + run), run);
    }
    rareOnes();
    System.out.println(calls + " drawn calls, " + wrong + " not as the oracle's");
    if (wrong != 0) System.exit(1);
  }

  private static StringBuilder log = new StringBuilder();

  /** What is hardly ever drawn: more than 4000 situations, a blind row of two balls. */
  private static void rareOnes() {
    String[][] rare = {
      {"first ahead", "row .#....;row .....#;row ..##..;row #...#.;row .#...#;row ...#..;ball 1 5;ball 0 5;ball 1 2"},
      {"first ahead", "row .#....;row .....#;row ..##..;row #...#1;row .#...#;row 3..#2.;ball 1 5;ball 0 4;ball 1 2"},
      {"first x if way%2=0;first y", "row ...#..;row #....#;row ..#.#1;row ...#..;row .#..2#;row 3.#...;ball 5 1;ball 4 0;ball 0 3"},
      {"first ahead", "row #...#.;row .#....;row #..#..;row ..#..#;row ...#..;row .#..#.;ball 1 2;ball 1 3;ball 5 0"},
      {"first ahead", "row #...#.;row .#....;row #..#..;row ..#..#;row ...#..;row .#..#.;ball 4 3;ball 2 1;ball 3 1"},
      {"first ahead", "row .1..#.;row .#....;row #..#..;row ..#..#;row ...#..;row .#..#3;ball 2 1;ball 2 4;ball 2 2"},
      {"first 1-ball", "row 2##;row ...;row #1#;ball 0 1;ball 1 1"},
      {"first ahead+ball", "row #1##;row #...;row ##2#;ball 1 1;ball 2 1"},
    };
    for (int i = 0; i < rare.length; i++) {
      BallBox x = new BallBox();
      Oracle o = new Oracle();
      Random r = new Random(i);
      callsOfRun = 0;
      tell(-1 - i, r, x, o, rare[i][0], false);
      tell(-1 - i, r, x, o, rare[i][1], true);
      same(-1 - i, "force(0)", x.force(0), o.force(0));
      same(-1 - i, "fewest()", x.fewest(), o.fewest());
      for (int k = 0; k < 30; k += 7) same(-1 - i, "path", x.path(k), o.path(k));
      same(-1 - i, "chipped", x.chipped(2), o.chipped(2));
      same(-1 - i, "walled", x.walled(2), o.walled(2));
      for (int k = 0; k <= 6; k++) same(-1 - i, "blind", x.blind(6, k), o.blind(6, k));
      for (int k = 0; k < 3; k++) same(-1 - i, "hardest", x.hardest(k), o.hardest(k));
      same(-1 - i, "tells", x.tells(1), o.tells(1));
    }
  }

  private static void same(int run, String call, long got, long due) {
    callsOfRun++;
    if (callsOfRun > MOST_CALLS) return;
    calls++;
    log.append(call).append(" -> ").append(due).append('\n');
    if (got != due) {
      wrong++;
      System.out.println("run " + run + ": " + call + " answered " + got + ", the oracle " + due);
      System.out.println(log.length() > 3000 ? log.substring(log.length() - 3000) : log);
    }
  }

  private static void oneRun(Random r, int run) {
    log = new StringBuilder();
    BallBox x = new BallBox();
    Oracle o = new Oracle();
    int size = 2 + r.nextInt(r.nextInt(8) == 0 ? 5 : 3);
    int most = r.nextInt(3) == 0 ? MOST_CALLS : 120;
    callsOfRun = 0;
    String own = Drawn.box(r, size);
    if (r.nextInt(10) != 0) tell(run, r, x, o, own, true);
    int rules = r.nextInt(3);
    for (int i = 0; i < rules; i++) tell(run, r, x, o, Drawn.rule(r), false);
    for (int i = 0; i < most && callsOfRun < MOST_CALLS && wrong < 20; i++) {
      if (r.nextInt(25) == 0) {
        boolean box = r.nextInt(3) == 0;
        String text = box ? Drawn.box(r, size) : Drawn.rule(r);
        if (r.nextInt(3) != 0) text = Drawn.spoilt(r, text);
        tell(run, r, x, o, text, box);
      } else if (r.nextInt(15) == 0) {
        tell(run, r, x, o, own, true);
      } else {
        call(run, r, x, o);
      }
    }
  }

  private static void tell(int run, Random r, BallBox x, Oracle o, String text, boolean box) {
    if (r.nextInt(20) != 0) same(run, "end(0)", x.end(0), o.end(0));
    int[] n = Texts.packed(text);
    log.append("text: ").append(text).append('\n');
    for (int i = 0; i < n.length; i += 5) {
      same(run, "feed", x.feed(n[i], n[i + 1], n[i + 2], n[i + 3], n[i + 4]),
          o.feed(n[i], n[i + 1], n[i + 2], n[i + 3], n[i + 4]));
    }
    same(run, "end(" + text.length() + ")", x.end(text.length()), o.end(text.length()));
    same(run, box ? "box()" : "rule()", box ? x.box() : x.rule(), box ? o.box() : o.rule());
    same(run, "count(12)", x.count(12), o.count(12));
  }

  private static int near(Random r, int low, int high) {
    return r.nextInt(12) == 0 ? (r.nextBoolean() ? low - 1 - r.nextInt(2) : high + 1 + r.nextInt(2)) : low + r.nextInt(high - low + 1);
  }

  private static void call(int run, Random r, BallBox x, Oracle o) {
    int a;
    int b;
    int c;
    int which = r.nextInt(40);
    switch (which) {
      case 0: a = near(r, -1, 2); same(run, "force(" + a + ")", x.force(a), o.force(a)); break;
      case 1: a = near(r, 0, 5); b = near(r, 0, 5); c = near(r, 0, 1);
        same(run, "cell(" + a + "," + b + "," + c + ")", x.cell(a, b, c), o.cell(a, b, c)); break;
      case 2: a = near(r, 0, 2); b = near(r, 0, 3);
        same(run, "ball(" + a + "," + b + ")", x.ball(a, b), o.ball(a, b)); break;
      case 3: case 4: a = near(r, 0, 2); b = near(r, 0, 3); c = near(r, 0, 3);
        same(run, "put(" + a + "," + b + "," + c + ")", x.put(a, b, c) ? 1 : 0, o.put(a, b, c) ? 1 : 0); break;
      case 5: case 6: a = near(r, 0, 4); b = near(r, 0, 4); c = r.nextInt(2);
        same(run, "wall(" + a + "," + b + "," + c + ")", x.wall(a, b, c == 1) ? 1 : 0, o.wall(a, b, c == 1) ? 1 : 0); break;
      case 7: case 8: case 9: a = near(r, 0, 3); same(run, "tip(" + a + ")", x.tip(a), o.tip(a)); break;
      case 10: a = near(r, 0, 3); same(run, "may(" + a + ")", x.may(a), o.may(a)); break;
      case 11: case 12: case 13: case 14: a = r.nextInt(15) == 0 ? -1 : near(r, 0, 3); same(run, "press(" + a + ")", x.press(a), o.press(a)); break;
      case 15: a = near(r, 0, 3); same(run, "would(" + a + ")", x.would(a), o.would(a)); break;
      case 16: a = near(r, 0, 100); b = near(r, 0, 1);
        same(run, "sure(" + a + "," + b + ")", x.sure(a, b), o.sure(a, b)); break;
      case 17: same(run, "fewest()", x.fewest(), o.fewest()); break;
      case 18: a = near(r, 0, 6); same(run, "path(" + a + ")", x.path(a), o.path(a)); break;
      case 19: a = near(r, 0, 6); b = near(r, 0, 6);
        same(run, "blind(" + a + "," + b + ")", x.blind(a, b), o.blind(a, b)); break;
      case 20: a = near(r, 0, 2); same(run, "chipped(" + a + ")", x.chipped(a), o.chipped(a)); break;
      case 21: a = near(r, 0, 2); same(run, "walled(" + a + ")", x.walled(a), o.walled(a)); break;
      case 22: a = near(r, 0, 2); same(run, "hardest(" + a + ")", x.hardest(a), o.hardest(a)); break;
      case 23: case 24: case 25: a = r.nextInt(10) == 0 ? -1 : near(r, 0, 3); b = near(r, 0, r.nextInt(4)); c = near(r, 0, r.nextInt(2));
        same(run, "sound(" + a + "," + b + "," + c + ")", x.sound(a, b, c), o.sound(a, b, c)); break;
      case 26: a = near(r, 0, 3); same(run, "fits(" + a + ")", x.fits(a), o.fits(a)); break;
      case 27: a = near(r, 0, 2); same(run, "where(" + a + ")", x.where(a), o.where(a)); break;
      case 28: a = near(r, 0, 1); same(run, "tells(" + a + ")", x.tells(a), o.tells(a)); break;
      case 29: a = near(r, 0, r.nextInt(6) == 0 ? 8 : 4); b = near(r, 0, 1);
        same(run, "game(" + a + "," + b + ")", x.game(a, b), o.game(a, b)); break;
      case 30: same(run, "book()", x.book(), o.book()); break;
      case 31: a = near(r, 0, 7); same(run, "pain(" + a + ")", x.pain(a), o.pain(a)); break;
      case 32: a = r.nextInt(8) == 0 ? -r.nextInt(3) : r.nextInt() & Integer.MAX_VALUE;
        same(run, "seed(" + a + ")", x.seed(a), o.seed(a)); break;
      case 33: a = near(r, 1, 20); b = near(r, 1, r.nextInt(4) == 0 ? 60 : 8); c = near(r, 0, 2);
        same(run, "shaken(" + a + "," + b + "," + c + ")", x.shaken(a, b, c), o.shaken(a, b, c)); break;
      case 34: a = near(r, 0, 3); same(run, "image(" + a + ")", x.image(a), o.image(a)); break;
      case 35: a = near(r, 0, 3); same(run, "back(" + a + ")", x.back(a), o.back(a)); break;
      case 36: heard(run, r, x, o); break;
      case 37: if (r.nextInt(3) == 0) turned(run, r, x, o); break;
      default: for (int i = -1; i <= 14; i++) same(run, "count(" + i + ")", x.count(i), o.count(i)); break;
    }
  }

  /** Sounds that were really made, so that something fits. */
  private static void heard(int run, Random r, BallBox x, Oracle o) {
    same(run, "sound(-1,0,0)", x.sound(-1, 0, 0), o.sound(-1, 0, 0));
    if (o.w.grid == null) return;
    java.util.List<java.util.List<Integer>> starts = o.beginnings();
    if (starts.isEmpty()) return;
    java.util.List<Integer> now = starts.get(r.nextInt(starts.size()));
    for (int i = r.nextInt(5); i >= 0; i--) {
      int way = r.nextInt(4);
      Oracle.Rolled k = o.roll(o.w, now, way);
      now = k.now();
      same(run, "sound(" + way + "," + k.hits() + "," + k.falls() + ")", x.sound(way, k.hits(), k.falls()), o.sound(way, k.hits(), k.falls()));
    }
    for (int i = 0; i <= 3; i++) same(run, "fits(" + i + ")", x.fits(i), o.fits(i));
    for (int i = 0; i <= 2; i++) same(run, "where(" + i + ")", x.where(i), o.where(i));
    for (int i = 0; i <= 1; i++) same(run, "tells(" + i + ")", x.tells(i), o.tells(i));
  }

  /** The box there is, told again turned about, for the book. */
  private static void turned(int run, Random r, BallBox x, Oracle o) {
    same(run, "book()", x.book(), o.book());
    if (o.w.grid == null) return;
    int turn = r.nextInt(8);
    int wide = o.w.width();
    int high = o.w.height();
    boolean swap = (turn & 4) != 0;
    char[][] n = new char[swap ? wide : high][swap ? high : wide];
    String[] balls = new String[o.w.balls.size()];
    for (int y = 0; y < high; y++)
      for (int k = 0; k < wide; k++) {
        int tx = (turn & 1) == 0 ? k : wide - 1 - k;
        int ty = (turn & 2) == 0 ? y : high - 1 - y;
        int nx = swap ? ty : tx;
        int ny = swap ? tx : ty;
        n[ny][nx] = o.w.at(k, y);
        int who = o.w.balls.indexOf(6 * y + k);
        if (who >= 0) balls[who] = ";ball " + nx + " " + ny;
      }
    StringBuilder text = new StringBuilder();
    for (char[] line : n) text.append(text.length() == 0 ? "" : ";").append("row ").append(line);
    for (String b : balls) if (b != null) text.append(b);
    if (r.nextInt(4) == 0) text.setCharAt(4, text.charAt(4) == '.' ? '#' : '.');
    tell(run, r, x, o, text.toString(), true);
    same(run, "book()", x.book(), o.book());
    for (int i = 0; i < 8; i++) same(run, "pain(" + i + ")", x.pain(i), o.pain(i));
  }
}

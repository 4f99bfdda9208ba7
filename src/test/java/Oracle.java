import java.math.BigInteger;
import java.util.ArrayDeque;
import java.util.ArrayList;
import java.util.Arrays;
import java.util.HashMap;
import java.util.HashSet;
import java.util.LinkedHashMap;
import java.util.List;
import java.util.Map;
import java.util.Set;

/** The document again, written as plainly as can be and without any thought of cost. */
final class Oracle {
  static final int HOME = -1;
  static final int LOST = -2;

  static final class Fault extends RuntimeException {
    final int number;
    Fault(int place, int kind) { super(null, null, false, false); number = 1 + 8 * place + kind; }
  }

  interface Sum { long of(Words w); }
  interface Test { boolean of(Words w); }
  record Clause(Sum sum, Test test) {}
  record Words(int ball, int x, int y, int ahead, int way, int tips, int home, int steps) {}
  record Sound(int way, int hits, int falls) {}
  record Rolled(List<Integer> now, int hits, int falls) {}

  /** A box and all that an image holds; never changed in place but by with.. copies. */
  static final class World implements Cloneable {
    char[][] grid;
    List<Integer> balls = List.of();
    int tips;
    List<Integer> row = List.of();
    List<Sound> sounds = List.of();
    int force = -1;
    long x;
    World copy() {
      try {
        World w = (World) clone();
        if (grid != null) {
          w.grid = new char[grid.length][];
          for (int i = 0; i < grid.length; i++) w.grid[i] = grid[i].clone();
        }
        return w;
      } catch (CloneNotSupportedException e) { throw new AssertionError(e); }
    }
    int width() { return grid[0].length; }
    int height() { return grid.length; }
    char at(int x, int y) { return grid == null || x < 0 || y < 0 || y >= height() || x >= width() ? 0 : grid[y][x]; }
  }

  World w = new World();
  final List<List<Clause>> rules = new ArrayList<>();
  final List<World> book = new ArrayList<>();
  final List<Integer> pains = new ArrayList<>();
  final World[] images = new World[4];
  String tape = "";

  // ---- texts

  int feed(int... n) {
    if (tape.length() + 20 > 400) return -1;
    StringBuilder b = new StringBuilder(tape);
    for (int k : n) for (int s = 3; s >= 0; s--) b.append((char) (k >> 8 * s & 255));
    tape = b.toString();
    return tape.length();
  }

  int end(int n) {
    if (n < 0 || n > tape.length()) return -1;
    tape = tape.substring(0, n);
    return n;
  }

  int box() {
    String text = tape;
    tape = "";
    try {
      World n = new BoxParser(text).parse();
      n.force = w.force;
      n.x = w.x;
      w = n;
      return w.balls.size();
    } catch (Fault f) { return -2 - f.number; }
  }

  int rule() {
    if (rules.size() == 6) return -1;
    String text = tape;
    tape = "";
    try {
      rules.add(new RuleParser(text).parse());
      return rules.size() - 1;
    } catch (Fault f) { return -2 - f.number; }
  }

  static class Parser {
    final String t;
    int at;
    Parser(String t) { this.t = t; }
    int c() { return at < t.length() ? t.charAt(at) : -1; }
    void blanks() { while (c() == 32) at++; }
    String peekWord() {
      int to = at;
      while (to < t.length() && t.charAt(to) >= 'a' && t.charAt(to) <= 'z') to++;
      return t.substring(at, to);
    }
    boolean digit() { return c() >= '0' && c() <= '9'; }
    int number() {
      int from = at;
      if (!digit()) throw new Fault(at, 0);
      while (digit()) at++;
      if (at - from > 5) throw new Fault(from, 1);
      return Integer.parseInt(t.substring(from, at));
    }
  }

  static final class BoxParser extends Parser {
    BoxParser(String t) { super(t); }
    final List<String> lines = new ArrayList<>();
    final List<Integer> balls = new ArrayList<>();

    World parse() {
      clause(1);
      for (int n = 2; ; n++) {
        blanks();
        if (c() == -1) break;
        if (c() != ';') throw new Fault(at, 0);
        at++;
        clause(n);
      }
      World n = new World();
      n.grid = new char[lines.size()][];
      for (int i = 0; i < lines.size(); i++) n.grid[i] = lines.get(i).toCharArray();
      n.balls = List.copyOf(balls);
      return n;
    }

    void clause(int n) {
      blanks();
      int from = at;
      String word = peekWord();
      at += word.length();
      if (word.equals("row")) {
        if (n > 12 || lines.size() == 6 || !balls.isEmpty()) throw new Fault(from, 4);
        row();
      } else if (word.equals("ball")) {
        if (n > 12 || lines.isEmpty() || balls.size() == 3) throw new Fault(from, 4);
        ball();
      } else throw new Fault(from, 0);
    }

    void row() {
      blanks();
      String line = "";
      while (c() >= 0 && ".#123".indexOf(c()) >= 0) {
        char s = (char) c();
        if (line.length() == 6) throw new Fault(at, 5);
        if (s >= '1' && s <= '3' && (String.join("", lines) + line).indexOf(s) >= 0) throw new Fault(at, 5);
        line += s;
        at++;
      }
      if (line.isEmpty()) throw new Fault(at, 0);
      if (!lines.isEmpty() && lines.get(0).length() != line.length()) throw new Fault(at - 1, 5);
      lines.add(line);
    }

    void ball() {
      blanks();
      int px = at;
      int x = number();
      if (x > 5) throw new Fault(px, 1);
      blanks();
      int py = at;
      int y = number();
      if (y > 5) throw new Fault(py, 1);
      boolean fine = y < lines.size() && x < lines.get(0).length() && lines.get(y).charAt(x) == '.'
          && !balls.contains(6 * y + x);
      if (!fine) throw new Fault(px, 5);
      balls.add(6 * y + x);
    }
  }

  static final class RuleParser extends Parser {
    RuleParser(String t) { super(t); }
    int counted;
    static final List<String> NAMES = List.of("ball", "x", "y", "ahead", "way", "tips", "home", "steps");

    List<Clause> parse() {
      List<Clause> all = new ArrayList<>();
      do {
        blanks();
        int from = at;
        String word = peekWord();
        if (!word.equals("first")) throw new Fault(from, 0);
        if (all.size() == 12) throw new Fault(from, 4);
        at += word.length();
        Sum s = sum();
        Test t = null;
        blanks();
        if (peekWord().equals("if")) {
          at += 2;
          t = test(0);
        }
        all.add(new Clause(s, t));
        blanks();
        if (c() != ';' && c() != -1) throw new Fault(at, 0);
      } while (at++ < t.length());
      return all;
    }

    Test test(int depth) {
      Test left = part(depth);
      while (true) {
        blanks();
        if (!peekWord().equals("or")) return left;
        at += 2;
        Test a = left;
        Test b = part(depth);
        left = k -> a.of(k) || b.of(k);
      }
    }

    Test part(int depth) {
      Test left = fact(depth);
      while (true) {
        blanks();
        if (!peekWord().equals("and")) return left;
        at += 3;
        Test a = left;
        Test b = fact(depth);
        left = k -> a.of(k) && b.of(k);
      }
    }

    Test fact(int depth) {
      blanks();
      if (c() == '[') {
        if (depth == 10) throw new Fault(at, 2);
        at++;
        Test inner = test(depth + 1);
        blanks();
        if (c() != ']') throw new Fault(at, 0);
        at++;
        return inner;
      }
      if (peekWord().equals("not")) {
        if (depth == 10) throw new Fault(at, 2);
        at += 3;
        Test inner = fact(depth + 1);
        return k -> !inner.of(k);
      }
      Sum a = sum();
      blanks();
      int from = at;
      String sign = "";
      if (c() == '<' || c() == '>') {
        sign += (char) c();
        at++;
        if (c() == '=') { sign += "="; at++; }
      } else if (c() == '=') { sign = "="; at++; }
      else throw new Fault(at, 0);
      if (++counted > 60) throw new Fault(from, 3);
      Sum b = sum();
      final String s = sign;
      return k -> {
        int order = Long.compare(a.of(k), b.of(k));
        return s.contains("=") && order == 0 || s.contains("<") && order < 0 || s.contains(">") && order > 0;
      };
    }

    Sum sum() {
      Sum left = term();
      while (true) {
        blanks();
        int s = c();
        if (s != '+' && s != '-') return left;
        at++;
        Sum a = left;
        Sum b = term();
        left = s == '+' ? k -> a.of(k) + b.of(k) : k -> a.of(k) - b.of(k);
      }
    }

    Sum term() {
      Sum left = value();
      while (true) {
        blanks();
        int s = c();
        if (s != '*' && s != '/' && s != '%') return left;
        at++;
        Sum a = left;
        Sum b = value();
        left = k -> {
          long l = a.of(k);
          long r = b.of(k);
          if (s == '*') return l * r;
          if (r == 0) return 0;
          return s == '/' ? l / r : l % r;
        };
      }
    }

    Sum value() {
      blanks();
      int from = at;
      if (digit()) {
        int n = number();
        if (++counted > 60) throw new Fault(from, 3);
        return k -> n;
      }
      String word = peekWord();
      int name = NAMES.indexOf(word);
      if (name < 0) throw new Fault(from, 0);
      if (++counted > 60) throw new Fault(from, 3);
      at += word.length();
      return k -> switch (name) {
        case 0 -> k.ball();
        case 1 -> k.x();
        case 2 -> k.y();
        case 3 -> k.ahead();
        case 4 -> k.way();
        case 5 -> k.tips();
        case 6 -> k.home();
        default -> k.steps();
      };
    }
  }

  int force(int rule) {
    if (rule < -1 || rule >= rules.size()) return -2;
    int was = w.force;
    w.force = rule;
    return was;
  }

  // ---- rolling

  static final int[] DX = {0, 1, 0, -1};
  static final int[] DY = {-1, 0, 1, 0};

  static boolean open(World b, List<Integer> balls, int x, int y) {
    char c = b.at(x, y);
    return c != 0 && c != '#' && !balls.contains(6 * y + x);
  }

  static int ahead(World b, List<Integer> balls, int ball, int way) {
    int x = balls.get(ball) % 6;
    int y = balls.get(ball) / 6;
    int n = 0;
    while (open(b, balls, x + DX[way], y + DY[way])) {
      x += DX[way];
      y += DY[way];
      n++;
      if (b.at(x, y) != '.') break;
    }
    return n;
  }

  static int steps(World b, int ball, int cell) {
    for (int y = 0; y < b.height(); y++)
      for (int x = 0; x < b.width(); x++)
        if (b.at(x, y) == '1' + ball) return Math.abs(x - cell % 6) + Math.abs(y - cell / 6);
    return -1;
  }

  static int many(List<Integer> balls, int what) {
    return (int) balls.stream().filter(k -> k == what).count();
  }

  Rolled roll(World b, List<Integer> balls, int way) {
    List<Integer> order = new ArrayList<>();
    Map<Integer, Long> keys = new HashMap<>();
    for (int i = 0; i < balls.size(); i++) {
      if (balls.get(i) < 0) continue;
      order.add(i);
      keys.put(i, key(b, balls, i, way));
    }
    order.sort((p, q) -> keys.get(p).equals(keys.get(q)) ? p - q : Long.compare(keys.get(p), keys.get(q)));
    List<Integer> now = new ArrayList<>(balls);
    int hits = 0;
    int falls = 0;
    for (int i : order) {
      int x = now.get(i) % 6;
      int y = now.get(i) / 6;
      boolean moved = false;
      while (now.get(i) >= 0 && open(b, now, x + DX[way], y + DY[way])) {
        x += DX[way];
        y += DY[way];
        moved = true;
        if (b.at(x, y) == '.') now.set(i, 6 * y + x);
        else now.set(i, b.at(x, y) == '1' + i ? HOME : LOST);
      }
      if (now.get(i) < 0) falls++;
      else if (moved) hits++;
    }
    return new Rolled(now, hits, falls);
  }

  private long key(World b, List<Integer> balls, int i, int way) {
    int x = balls.get(i) % 6;
    int y = balls.get(i) / 6;
    if (b.force < 0) return -(x * DX[way] + y * DY[way]);
    Words k = new Words(i, x, y, ahead(b, balls, i, way), way, b.tips, many(balls, HOME),
        Math.max(0, steps(b, i, balls.get(i))));
    for (Clause c : rules.get(b.force)) if (c.test == null || c.test.of(k)) return c.sum.of(k);
    return 0;
  }

  int cell(int x, int y, int what) {
    char c = w.at(x, y);
    if (c == 0 || what < 0 || what > 1) return -1;
    if (what == 1) return w.balls.indexOf(6 * y + x);
    return ".#123".indexOf(c);
  }

  int ball(int ball, int what) {
    if (ball < 0 || ball >= w.balls.size() || what < 0 || what > 3) return -1;
    int c = w.balls.get(ball);
    if (what == 2) return c == HOME ? 1 : c == LOST ? 2 : 0;
    if (c < 0) return -1;
    return what == 0 ? c % 6 : what == 1 ? c / 6 : steps(w, ball, c);
  }

  boolean put(int ball, int x, int y) {
    if (ball < 0 || ball >= w.balls.size() || w.at(x, y) != '.' || w.balls.contains(6 * y + x)) return false;
    List<Integer> n = new ArrayList<>(w.balls);
    n.set(ball, 6 * y + x);
    w.balls = n;
    return true;
  }

  boolean wall(int x, int y, boolean is) {
    if (is ? w.at(x, y) != '.' || w.balls.contains(6 * y + x) : w.at(x, y) != '#') return false;
    w.grid[y][x] = is ? '#' : '.';
    return true;
  }

  int tip(int way) {
    if (w.grid == null || way < 0 || way > 3) return -1;
    Rolled r = roll(w, w.balls, way);
    w.balls = r.now;
    w.tips++;
    return r.hits + 10 * r.falls;
  }

  int may(int way) {
    if (w.grid == null || way < 0 || way > 3) return -1;
    Rolled r = roll(w, w.balls, way);
    return r.hits + 10 * r.falls;
  }

  int press(int way) {
    if (way == -1) { w.row = List.of(); return 0; }
    if (w.grid == null || way < 0 || way > 3 || w.row.size() == 8) return -2;
    w.row = plus(w.row, way);
    return w.row.size();
  }

  static <T> List<T> plus(List<T> list, T one) {
    List<T> n = new ArrayList<>(list);
    n.add(one);
    return n;
  }

  int would(int what) {
    if (w.grid == null || what < 0 || what > 3) return -1;
    List<Integer> now = w.balls;
    int hits = 0;
    int falls = 0;
    for (int way : w.row) {
      Rolled r = roll(w, now, way);
      now = r.now;
      hits += r.hits;
      falls += r.falls;
    }
    return new int[] {many(now, HOME), many(now, LOST), hits, falls}[what];
  }

  static boolean allHome(List<Integer> balls) { return many(balls, HOME) == balls.size(); }

  long sure(int p, int part) {
    if (w.grid == null || p < 0 || p > 100 || part < 0 || part > 1) return -1;
    BigInteger above = sureFrom(w.balls, 0, p);
    BigInteger below = BigInteger.valueOf(100).pow(w.row.size());
    BigInteger g = above.gcd(below);
    return (part == 0 ? above : below).divide(g).longValueExact();
  }

  private BigInteger sureFrom(List<Integer> now, int at, int p) {
    if (at == w.row.size()) return allHome(now) ? BigInteger.ONE : BigInteger.ZERO;
    BigInteger rolls = sureFrom(roll(w, now, w.row.get(at)).now, at + 1, p);
    BigInteger fails = sureFrom(now, at + 1, p);
    return rolls.multiply(BigInteger.valueOf(100 - p)).add(fails.multiply(BigInteger.valueOf(p)));
  }

  // ---- fewest

  /** The path, null: never, or one -3: unknown. */
  List<Integer> path(World b, List<Integer> from) {
    if (many(from, LOST) > 0) return null;
    if (allHome(from)) return List.of();
    Map<List<Integer>, List<Integer>> came = new LinkedHashMap<>();
    ArrayDeque<List<Integer>> open = new ArrayDeque<>();
    came.put(from, List.of());
    open.add(from);
    while (!open.isEmpty()) {
      List<Integer> s = open.poll();
      for (int way = 0; way < 4; way++) {
        List<Integer> n = roll(b, s, way).now;
        if (allHome(n)) return plus(came.get(s), way);
        if (many(n, LOST) > 0 || came.containsKey(n)) continue;
        if (came.size() == 4000) return List.of(-3);
        came.put(n, plus(came.get(s), way));
        open.add(n);
      }
    }
    return null;
  }

  int fewest(World b, List<Integer> from) {
    List<Integer> p = path(b, from);
    return p == null ? -2 : p.equals(List.of(-3)) ? -3 : p.size();
  }

  int fewest() { return w.grid == null ? -1 : fewest(w, w.balls); }

  int path(int k) {
    if (w.grid == null || k < 0) return -1;
    List<Integer> p = path(w, w.balls);
    if (p == null) return -2;
    if (p.equals(List.of(-3))) return -3;
    return k < p.size() ? p.get(k) : -2;
  }

  // ---- beginnings

  List<List<Integer>> beginnings() {
    List<List<Integer>> all = List.of(List.of());
    for (int i = 0; i < w.balls.size(); i++) {
      List<List<Integer>> more = new ArrayList<>();
      for (List<Integer> a : all)
        for (int y = 0; y < w.height(); y++)
          for (int x = 0; x < w.width(); x++)
            if (w.at(x, y) == '.' && !a.contains(6 * y + x)) more.add(plus(a, 6 * y + x));
      all = more;
    }
    return all;
  }

  int blind(int n, int what) {
    if (w.grid == null || n < 0 || n > 6 || what < 0 || what > 6 || w.balls.size() > 2) return -1;
    Map<List<Integer>, List<List<Integer>>> next = new HashMap<>();
    List<List<Integer>> starts = beginnings();
    for (int length = 0; length <= n; length++) {
      for (int row = 0; row < 1 << 2 * length; row++) {
        boolean all = true;
        for (List<Integer> s : starts) {
          List<Integer> now = s;
          for (int i = length - 1; i >= 0; i--) {
            List<Integer> here = now;
            List<List<Integer>> by = next.computeIfAbsent(here, k -> {
              List<List<Integer>> four = new ArrayList<>();
              for (int way = 0; way < 4; way++) four.add(roll(w, here, way).now);
              return four;
            });
            now = by.get(row >> 2 * i & 3);
          }
          if (!allHome(now)) { all = false; break; }
        }
        if (all) {
          if (what == 0) return length;
          return what > length ? -2 : row >> 2 * (length - what) & 3;
        }
      }
    }
    return -2;
  }

  int chipped(int what) {
    if (w.grid == null || what < 0 || what > 2) return -1;
    int[] best = null;
    for (int y = 0; y < w.height(); y++)
      for (int x = 0; x < w.width(); x++) {
        if (w.at(x, y) != '#') continue;
        World t = w.copy();
        t.grid[y][x] = '.';
        int f = fewest(t, t.balls);
        if (f >= 0 && (best == null || f < best[2])) best = new int[] {x, y, f};
      }
    return best == null ? -2 : best[what];
  }

  int walled(int what) {
    if (w.grid == null || what < 0 || what > 2) return -1;
    int[] best = null;
    for (int y = 0; y < w.height(); y++)
      for (int x = 0; x < w.width(); x++) {
        if (w.at(x, y) != '.' || w.balls.contains(6 * y + x)) continue;
        World t = w.copy();
        t.grid[y][x] = '#';
        int f = fewest(t, t.balls);
        if (f >= 0 && (best == null || f > best[2])) best = new int[] {x, y, f};
      }
    return best == null ? -2 : best[what];
  }

  int hardest(int what) {
    if (w.grid == null || what < 0 || what > 2 || w.balls.size() > 2) return -1;
    int most = -1;
    List<Integer> at = null;
    for (List<Integer> s : beginnings()) {
      int f = fewest(w, s);
      if (f > most) { most = f; at = s; }
    }
    if (at == null) return -2;
    return what == 0 ? most : what > at.size() ? -2 : at.get(what - 1);
  }

  // ---- sounds

  int sound(int way, int hits, int falls) {
    if (way == -1) { w.sounds = List.of(); return 0; }
    if (w.grid == null || way < 0 || way > 3 || hits < 0 || falls < 0 || hits > 3 || falls > 3 || hits + falls > 3
        || w.sounds.size() == 8) return -2;
    w.sounds = plus(w.sounds, new Sound(way, hits, falls));
    return w.sounds.size();
  }

  private List<List<Integer>> fitting(List<List<Integer>> ends) {
    List<List<Integer>> all = new ArrayList<>();
    for (List<Integer> s : beginnings()) {
      List<Integer> now = s;
      boolean fits = true;
      for (Sound k : w.sounds) {
        Rolled r = roll(w, now, k.way);
        fits &= r.hits == k.hits && r.falls == k.falls;
        now = r.now;
        if (!fits) break;
      }
      if (fits) { all.add(s); ends.add(now); }
    }
    return all;
  }

  int fits(int what) {
    if (w.grid == null || what < 0 || what > 3) return -1;
    List<List<Integer>> all = fitting(new ArrayList<>());
    if (what == 0) return all.size();
    return all.isEmpty() || what > w.balls.size() ? -2 : all.get(0).get(what - 1);
  }

  long where(int ball) {
    if (w.grid == null || ball < 0 || ball >= w.balls.size()) return -1;
    long bits = 0;
    for (List<Integer> s : fitting(new ArrayList<>())) bits |= 1L << s.get(ball);
    return bits;
  }

  int tells(int what) {
    if (w.grid == null || what < 0 || what > 1) return -1;
    List<List<Integer>> ends = new ArrayList<>();
    fitting(ends);
    if (ends.isEmpty()) return -2;
    int best = -1;
    int least = Integer.MAX_VALUE;
    for (int way = 0; way < 4; way++) {
      Map<Integer, Integer> tally = new HashMap<>();
      for (List<Integer> e : ends) {
        Rolled r = roll(w, e, way);
        tally.merge(100 * r.hits + r.falls, 1, Integer::sum);
      }
      int most = tally.values().stream().max(Integer::compare).get();
      if (most < least) { least = most; best = way; }
    }
    return what == 0 ? best : least;
  }

  // ---- game, book, draws, images

  private boolean has(List<Integer> now, int left, boolean first) {
    if (allHome(now)) return true;
    if (left == 0) return false;
    for (int way = 0; way < 4; way++)
      if (has(roll(w, now, way).now, left - 1, !first) == first) return first;
    return !first;
  }

  int game(int n, int what) {
    if (w.grid == null || n < 0 || n > 8 || what < 0 || what > 1) return -1;
    if (allHome(w.balls)) return what == 0 ? 1 : -1;
    if (n > 0)
      for (int way = 0; way < 4; way++)
        if (has(roll(w, w.balls, way).now, n - 1, false)) return what == 0 ? 1 : way;
    return what == 0 ? 0 : -2;
  }

  private static List<String> picture(World b) {
    List<String> lines = new ArrayList<>();
    for (int y = 0; y < b.height(); y++) {
      StringBuilder s = new StringBuilder();
      for (int x = 0; x < b.width(); x++) {
        int who = b.balls.indexOf(6 * y + x);
        s.append(who < 0 ? b.at(x, y) : (char) ('a' + who));
      }
      lines.add(s.toString());
    }
    return lines;
  }

  private static List<String> quarter(List<String> lines) {
    List<String> n = new ArrayList<>();
    for (int x = 0; x < lines.get(0).length(); x++) {
      StringBuilder s = new StringBuilder();
      for (int y = lines.size() - 1; y >= 0; y--) s.append(lines.get(y).charAt(x));
      n.add(s.toString());
    }
    return n;
  }

  private static Set<List<String>> turns(World b) {
    Set<List<String>> all = new HashSet<>();
    List<String> p = picture(b);
    for (int i = 0; i < 4; i++) {
      all.add(p);
      List<String> mirrored = new ArrayList<>();
      for (String s : p) mirrored.add(new StringBuilder(s).reverse().toString());
      all.add(mirrored);
      p = quarter(p);
    }
    return all;
  }

  int book() {
    if (w.grid == null) return -1;
    if (book.size() == 8) return -2;
    for (World b : book) if (turns(b).contains(picture(w))) return -2;
    book.add(w.copy());
    pains.add(fewest());
    return book.size() - 1;
  }

  int pain(int number) { return number < 0 || number >= book.size() ? -1 : pains.get(number); }

  int seed(int x) {
    if (x < 0) return -1;
    int was = (int) w.x;
    w.x = x;
    return was;
  }

  int shaken(int m, int n, int what) {
    if (w.grid == null || m < 1 || m > 20 || n < 1 || n > 60 || what < 0 || what > 2) return -1;
    BigInteger x = BigInteger.valueOf(w.x);
    int[] sums = new int[3];
    for (int i = 0; i < m; i++) {
      List<Integer> now = w.balls;
      for (int k = 0; k < n; k++) {
        x = x.multiply(BigInteger.valueOf(1103515245)).add(BigInteger.valueOf(12345)).mod(BigInteger.TWO.pow(31));
        int draw = x.divide(BigInteger.valueOf(65536)).intValue();
        Rolled r = roll(w, now, draw % 4);
        now = r.now;
        sums[2] += r.hits;
      }
      if (allHome(now)) sums[0]++;
      sums[1] += many(now, LOST);
    }
    return sums[what];
  }

  int count(int what) {
    boolean has = w.grid != null;
    switch (what) {
      case 0: return has ? w.width() : 0;
      case 1: return has ? w.height() : 0;
      case 2: return w.balls.size();
      case 3: return many(w.balls, HOME);
      case 4: return many(w.balls, LOST);
      case 5: return w.tips;
      case 6: return rules.size();
      case 7: return w.force;
      case 8: return w.row.size();
      case 9: return w.sounds.size();
      case 10: return book.size();
      case 11: return (int) w.x;
      case 12: return tape.length();
      case 13: return has ? (int) Arrays.stream(w.grid).map(String::new).flatMapToInt(String::chars).filter(c -> c == '#').count() : 0;
      default: return -1;
    }
  }

  int image(int k) {
    if (k < 0 || k > 3) return -1;
    images[k] = w.copy();
    return w.tips;
  }

  int back(int k) {
    if (k < 0 || k > 3 || images[k] == null) return -1;
    w = images[k].copy();
    return w.tips;
  }
}

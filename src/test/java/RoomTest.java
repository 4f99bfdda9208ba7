import java.lang.management.ManagementFactory;

/** Calls make nothing that stays, or nothing at all; odd arguments never make the machine throw. */
public final class RoomTest {
  private static final int[] ODD = {0, -1, 1, 2, 3, 5, 6, 7, 8, 36, 60, 100, 400, Integer.MAX_VALUE, Integer.MIN_VALUE, -2, -3};

  public static void main(String[] args) {
    com.sun.management.ThreadMXBean room = (com.sun.management.ThreadMXBean) ManagementFactory.getThreadMXBean();
    long id = Thread.currentThread().getId();
    BallBox x = new BallBox();
    Texts.rule(x, "first ball if x<y or not ahead=steps;first x*y-3%2");
    x.force(0);
    oddCalls(x);
    Texts.box(x, "row 1....#;row .2....;row ......;row ......;row ..#...;row ......;ball 5 5;ball 1 0;ball 0 1");
    dear(x);
    long before = room.getThreadAllocatedBytes(id);
    dear(x);
    long made = room.getThreadAllocatedBytes(id) - before;
    Check.due("bytes made by the dearest calls", 1, made < 20000 ? 1 : made);
    before = room.getThreadAllocatedBytes(id);
    BallBox y = new BallBox();
    made = room.getThreadAllocatedBytes(id) - before;
    Check.due("bytes of one object", 1, made < 600000 && y.count(0) == 0 ? 1 : made);
    oddCalls(x);
    Texts.box(x, "row .1;row 2.;ball 0 0;ball 1 1");
    oddCalls(x);
    Check.finish("room");
  }

  private static void dear(BallBox x) {
    x.sound(-1, 0, 0);
    x.sound(1, 1, 0);
    x.tip(0);
    x.image(0);
    x.fewest();
    x.path(0);
    x.chipped(0);
    x.walled(0);
    x.fits(0);
    x.tells(0);
    x.where(0);
    x.press(1);
    x.would(0);
    x.sure(50, 0);
    x.game(8, 0);
    x.shaken(20, 60, 0);
    x.book();
    x.back(0);
    x.blind(6, 0);
  }

  private static void oddCalls(BallBox x) {
    for (int a : ODD) {
      x.force(-1);
      x.end(a);
      x.ball(a, 0);
      x.tip(a);
      x.may(a);
      x.press(a);
      x.would(a);
      x.path(a);
      x.chipped(a);
      x.walled(a);
      x.hardest(a);
      x.fits(a);
      x.where(a);
      x.tells(a);
      x.pain(a);
      x.seed(a);
      x.count(a);
      x.image(a);
      x.back(a);
      x.force(a);
      for (int b : ODD) {
        x.ball(a, b);
        x.cell(a, b, 0);
        x.cell(a, b, 1);
        x.put(0, a, b);
        x.put(a, b, 1);
        x.wall(a, b, true);
        x.wall(a, b, false);
        x.sure(a, b);
        x.blind(a, b);
        x.game(a, b);
        x.sound(a, b, 1);
        x.sound(0, a, b);
        x.shaken(a, b, 0);
        x.shaken(1, a, b);
      }
      x.feed(a, a, a, a, a);
      x.box();
      x.rule();
      x.book();
      x.fewest();
    }
  }
}

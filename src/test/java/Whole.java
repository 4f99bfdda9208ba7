/** All that can be heard of an object, as lines of text; the object is used up by it (some 300 calls). */
final class Whole {
  private final BallBox x;
  private final StringBuilder lines = new StringBuilder();

  private Whole(BallBox x) {
    this.x = x;
  }

  static String of(BallBox x) {
    Whole whole = new Whole(x);
    whole.counts("now");
    whole.cells("now");
    whole.balls("now");
    whole.asked();
    whole.rules();
    whole.images();
    whole.tape();
    return whole.lines.toString();
  }

  private void line(String call, long answer) {
    lines.append(call).append(" -> ").append(answer).append('\n');
  }

  private void counts(String when) {
    for (int what = 0; what <= 13; what++) {
      line(when + " count(" + what + ")", x.count(what));
    }
  }

  private void cells(String when) {
    int columns = x.count(0);
    int rows = x.count(1);
    for (int i = 0; i < columns * rows; i++) {
      String at = i % columns + ", " + i / columns;
      line(when + " cell(" + at + ", 0)", x.cell(i % columns, i / columns, 0));
      line(when + " cell(" + at + ", 1)", x.cell(i % columns, i / columns, 1));
    }
  }

  private void balls(String when) {
    for (int ball = 0; ball < 3; ball++) {
      for (int what = 0; what <= 3; what++) {
        line(when + " ball(" + ball + ", " + what + ")", x.ball(ball, what));
      }
    }
  }

  private void asked() {
    row("now");
    line("fewest()", x.fewest());
    for (int i = 0; i <= 3; i++) {
      line("may(" + i + ")", x.may(i));
      line("fits(" + i + ")", x.fits(i));
    }
    for (int i = 0; i <= 2; i++) {
      line("path(" + i + ")", x.path(i));
      line("blind(6, " + i + ")", x.blind(6, i));
      line("chipped(" + i + ")", x.chipped(i));
      line("walled(" + i + ")", x.walled(i));
      line("hardest(" + i + ")", x.hardest(i));
      line("where(" + i + ")", x.where(i));
      line("shaken(3, 7, " + i + ")", x.shaken(3, 7, i));
    }
    for (int i = 0; i <= 1; i++) {
      line("tells(" + i + ")", x.tells(i));
      line("game(3, " + i + ")", x.game(3, i));
    }
    for (int i = 0; i < 8; i++) {
      line("pain(" + i + ")", x.pain(i));
    }
  }

  private void row(String when) {
    for (int i = 0; i <= 3; i++) {
      line(when + " would(" + i + ")", x.would(i));
    }
    line(when + " sure(30, 0)", x.sure(30, 0));
    line(when + " sure(30, 1)", x.sure(30, 1));
  }

  private void rules() {
    int rules = x.count(6);
    for (int rule = 0; rule < rules; rule++) {
      line("force(" + rule + ")", x.force(rule));
      for (int way = 0; way <= 3; way++) {
        line("by rule " + rule + " may(" + way + ")", x.may(way));
      }
    }
  }

  private void images() {
    for (int k = 0; k <= 3; k++) {
      int tips = x.back(k);
      line("back(" + k + ")", tips);
      if (tips >= 0) {
        String when = "in image " + k;
        counts(when);
        row(when);
        for (int ball = 0; ball < 3; ball++) {
          line(when + " ball(" + ball + ", 0)", x.ball(ball, 0));
          line(when + " ball(" + ball + ", 1)", x.ball(ball, 1));
        }
        line(when + " fits(0)", x.fits(0));
      }
    }
  }

  /** What the tape says is heard as a box, if it is one, or else by its fault. */
  private void tape() {
    line("the tape as box()", x.box());
    cells("by the tape");
    balls("by the tape");
  }
}

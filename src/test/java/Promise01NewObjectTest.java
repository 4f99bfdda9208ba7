/** Promise 1: no box, no rules, none in force; and what the terms say of the beginning. */
public final class Promise01NewObjectTest {
  public static void main(String[] args) {
    Check.run(Promise01NewObjectTest.class);
  }

  static void promise1NoneIsMinusOne() {
    Check.due("NONE", -1, BallBox.NONE);
  }

  static void promise1HasNoBox() {
    BallBox x = new BallBox();
    int[] none = {0, 1, 2, 3, 4, 5, 8, 9, 13};
    for (int what : none) {
      Check.due("count(" + what + ")", 0, x.count(what));
    }
    Check.due("cell(0, 0, 0)", -1, x.cell(0, 0, 0));
    Check.due("ball(0, 2)", -1, x.ball(0, 2));
    Check.due("fewest()", -1, x.fewest());
  }

  static void promise1HasNoRules() {
    BallBox x = new BallBox();
    Check.due("count(6)", 0, x.count(6));
    Check.due("force(0)", -2, x.force(0));
  }

  static void promise1NoneIsInForce() {
    BallBox x = new BallBox();
    Check.due("count(7)", -1, x.count(7));
    Check.due("force(-1)", -1, x.force(-1));
  }

  static void promise1TapeIsEmpty() {
    BallBox x = new BallBox();
    Check.due("count(12)", 0, x.count(12));
    Check.due("end(1)", -1, x.end(1));
    Check.due("box() of an empty tape", Texts.fault(0, 0), x.box());
  }

  static void promise1BookIsEmpty() {
    BallBox x = new BallBox();
    Check.due("count(10)", 0, x.count(10));
    Check.due("pain(0)", -1, x.pain(0));
  }

  static void promise1XIsZeroAtFirst() {
    BallBox x = new BallBox();
    Check.due("count(11)", 0, x.count(11));
    Check.due("seed(3)", 0, x.seed(3));
  }

  static void promise1NoImageWasMade() {
    BallBox x = new BallBox();
    for (int k = 0; k <= 3; k++) {
      Check.due("back(" + k + ")", -1, x.back(k));
    }
  }

  static void promise1IsNewBesideAnUsedOne() {
    String alone = Whole.of(new BallBox());
    Whole.of(Bases.full());
    Check.same("a new one behind a full one", alone, Whole.of(new BallBox()));
  }
}

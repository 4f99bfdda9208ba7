/** Promise 29: seed. */
public final class Promise29SeedTest {
  public static void main(String[] args) {
    Check.run(Promise29SeedTest.class);
  }

  static void promise29AnswersWhatItWas() {
    BallBox x = new BallBox();
    Check.due("seed(5)", 0, x.seed(5));
    Check.due("seed(6)", 5, x.seed(6));
    Check.due("count(11)", 6, x.count(11));
  }

  static void promise29Zero() {
    BallBox x = Bases.rich();
    Check.due("seed(0)", 77, x.seed(0));
    Check.due("count(11)", 0, x.count(11));
  }

  static void promise29TheGreatestNumber() {
    BallBox x = new BallBox();
    Check.due("seed", 0, x.seed(2147483647));
    Check.due("count(11)", 2147483647, x.count(11));
    Check.due("seed(1)", 2147483647, x.seed(1));
  }

  static void promise29BelowZeroIsRefused() {
    Bases.leaves("seed(-1)", Bases::rich, -1, x -> x.seed(-1));
    Bases.leaves("seed of the least number", Bases::rich, -1, x -> x.seed(Integer.MIN_VALUE));
  }

  static void promise29ComesWithoutABox() {
    BallBox x = new BallBox();
    Check.due("seed(3)", 0, x.seed(3));
    Check.due("count(11)", 3, x.count(11));
  }

  static void promise29LeavesAllElse() {
    BallBox x = Bases.rich();
    x.seed(3);
    x.seed(77);
    Check.same("there and back", Whole.of(Bases.rich()), Whole.of(x));
  }
}

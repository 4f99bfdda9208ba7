/** Promise 12: may. */
public final class Promise12MayTest {
  public static void main(String[] args) {
    Check.run(Promise12MayTest.class);
  }

  static void promise12AnswersAsTipAndNothingHappens() {
    for (int way = 0; way <= 3; way++) {
      int by = way;
      Bases.leaves("may(" + way + ")", Bases::rich, Bases.rich().tip(way), x -> x.may(by));
      Bases.leaves("may(" + way + ")", Bases::pair, Bases.pair().tip(way), x -> x.may(by));
    }
  }

  static void promise12HitsAndFalls() {
    BallBox x = Texts.boxed("row .1;row ..;row .2;ball 0 0;ball 0 1;ball 0 2");
    Check.due("right: ball 0 home, ball 1 hits, ball 2 lost", 21, x.may(1));
    Check.due("again", 21, x.may(1));
    Check.due("tips", 0, x.count(5));
    Check.due("home", 0, x.count(3));
    Check.due("lost", 0, x.count(4));
  }

  static void promise12ByTheRuleInForce() {
    BallBox x = Texts.boxed("row ....;ball 0 0;ball 1 0");
    Texts.rule(x, "first ball if tips=0;first 0-ball");
    x.force(0);
    Check.due("ball 0 first", 1, x.may(1));
    Check.due("tips do not grow", 1, x.may(1));
    x.tip(0);
    Check.due("ball 1 first", 2, x.may(1));
  }

  static void promise12OtherWays() {
    int[] others = {-1, 4, Integer.MAX_VALUE, Integer.MIN_VALUE};
    for (int way : others) {
      Bases.leaves("may(" + way + ")", Bases::rich, -1, x -> x.may(way));
    }
  }

  static void promise12WithoutABox() {
    Bases.leaves("may(0)", Bases::bare, -1, x -> x.may(0));
    Bases.leaves("may(3)", Bases::bare, -1, x -> x.may(3));
  }
}

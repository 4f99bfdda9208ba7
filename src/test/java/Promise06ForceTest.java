/** Promise 6: force. */
public final class Promise06ForceTest {
  public static void main(String[] args) {
    Check.run(Promise06ForceTest.class);
  }

  static void promise6AnswersWhichWas() {
    BallBox x = Bases.rich();
    Check.due("force(0)", 1, x.force(0));
    Check.due("force(0) again", 0, x.force(0));
    Check.due("force(-1)", 0, x.force(-1));
    Check.due("force(-1) again", -1, x.force(-1));
    Check.due("force(1)", -1, x.force(1));
    Check.due("count(7)", 1, x.count(7));
  }

  static void promise6TakesTheLastRule() {
    BallBox x = Bases.full();
    Check.due("force(5) of six", 5, x.force(5));
    BallBox y = Bases.rich();
    Check.due("force(1) of two", 1, y.force(1));
  }

  static void promise6RefusesTheRuleBehindTheLast() {
    Bases.leaves("force(2) of two", Bases::rich, -2, x -> x.force(2));
    Bases.leaves("force(6) of six", Bases::full, -2, x -> x.force(6));
    Bases.leaves("force(0) of none", Bases::fresh, -2, x -> x.force(0));
    Bases.leaves("force of the greatest number", Bases::rich, -2, x -> x.force(Integer.MAX_VALUE));
  }

  static void promise6NoneIsTakenAlsoWithoutRules() {
    BallBox x = new BallBox();
    Check.due("force(-1)", -1, x.force(-1));
    Check.due("count(7)", -1, x.count(7));
  }

  static void promise6RefusesBelowNone() {
    Bases.leaves("force(-2)", Bases::rich, -2, x -> x.force(-2));
    Bases.leaves("force of the least number", Bases::rich, -2, x -> x.force(Integer.MIN_VALUE));
  }

  static void promise6ComesWithoutABox() {
    BallBox x = Bases.bare();
    Check.due("force(0)", 1, x.force(0));
    Check.due("count(7)", 0, x.count(7));
  }

  static void promise6TheOneInForceTellsTheOrder() {
    BallBox x = Texts.boxed("row ....;ball 0 0;ball 1 0");
    Texts.rule(x, "first ball");
    Texts.rule(x, "first 0-ball");
    Check.due("none: the furthest first", 2, x.may(1));
    x.force(0);
    Check.due("ball 0 first, and stopped", 1, x.may(1));
    x.force(1);
    Check.due("ball 1 first", 2, x.may(1));
    x.force(0);
    x.force(-1);
    Check.due("none again", 2, x.may(1));
  }

  static void promise6LeavesAllElse() {
    BallBox x = Bases.rich();
    x.force(0);
    x.force(1);
    Check.same("there and back", Whole.of(Bases.rich()), Whole.of(x));
  }

  static void promise6WhatWasReckonedIsReckonedAnew() {
    // Ball 0 first is stopped at first, so that a tip more is needed.
    BallBox x = Texts.boxed("row ...;row #12;ball 0 0;ball 1 0");
    Texts.rule(x, "first ball");
    Check.due("fewest", 2, x.fewest());
    Check.due("hits by a sound", 1, x.sound(1, 1, 0));
    int fits = x.fits(0);
    x.force(0);
    Check.due("fewest by the rule", 3, x.fewest());
    Check.due("its path", 1, x.path(1));
    Check.due("others fit by the rule", true, fits != x.fits(0));
    x.force(-1);
    Check.due("fewest without it", 2, x.fewest());
    Check.due("as many fit as before", fits, x.fits(0));
  }
}

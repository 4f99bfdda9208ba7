/** Promise 5: rule, what it answers and what it leaves; its language is in Promise05RuleTextTest. */
public final class Promise05RuleTest {
  public static void main(String[] args) {
    Check.run(Promise05RuleTest.class);
  }

  static void promise5AnswersItsNumber() {
    BallBox x = new BallBox();
    for (int i = 0; i <= 5; i++) {
      Check.due("rule " + i, i, Texts.rule(x, "first " + i));
      Check.due("count(6)", i + 1, x.count(6));
    }
  }

  static void promise5TapeIsEmptyThen() {
    BallBox x = new BallBox();
    Check.due("rule", 0, Texts.rule(x, "first ball"));
    Check.due("count(12)", 0, x.count(12));
    Check.due("rule of an empty tape", Texts.fault(0, 0), x.rule());
  }

  static void promise5TapeIsEmptyBehindAFault() {
    BallBox x = new BallBox();
    Check.due("rule", Texts.fault(6, 0), Texts.rule(x, "first balls"));
    Check.due("count(12)", 0, x.count(12));
  }

  static void promise5SeventhIsRefusedAndLeavesAll() {
    Bases.leaves("a seventh", Bases::full, -1, BallBox::rule);
  }

  static void promise5SeventhLeavesItsTape() {
    BallBox x = Bases.full();
    Check.due("a seventh", -1, Texts.rule(x, "first 0"));
    Check.due("count(12)", 7, x.count(12));
    Check.due("rules", 6, x.count(6));
    Check.due("a seventh with a fault", -1, Texts.rule(x, "x"));
    Check.due("count(12)", 1, x.count(12));
    Check.due("a seventh of an empty tape", -1, Texts.rule(x, ""));
  }

  static void promise5AFaultTakesNoNumber() {
    BallBox x = new BallBox();
    Check.due("rule 0", 0, Texts.rule(x, "first 0"));
    Check.due("a fault", Texts.fault(0, 0), Texts.rule(x, "x"));
    Check.due("count(6)", 1, x.count(6));
    Check.due("rule 1", 1, Texts.rule(x, "first 0"));
  }

  static void promise5AFaultLeavesAllButTheTape() {
    String[] faulty = {"", "first", "first 0-ball;first x;first z", "first 1 if [x=1"};
    for (String text : faulty) {
      BallBox x = Bases.rich();
      Check.due("a fault in " + text, true, Texts.rule(x, text) < -2);
      BallBox y = Bases.rich();
      y.end(0);
      Check.same("behind " + text, Whole.of(y), Whole.of(x));
    }
  }

  static void promise5AFaultAsTheSixthWouldCome() {
    BallBox x = new BallBox();
    for (int i = 0; i < 5; i++) {
      Texts.rule(x, "first " + i);
    }
    Check.due("a fault", Texts.fault(7, 0), Texts.rule(x, "first 1?"));
    Check.due("the sixth", 5, Texts.rule(x, "first 1"));
  }

  static void promise5AFaultLeavesNothingInTheNextRule() {
    BallBox x = Texts.boxed("row ....;ball 0 0;ball 1 0");
    Check.due("a fault behind two clauses", Texts.fault(28, 0), Texts.rule(x, "first 0-ball if 1=1;first 5-\n"));
    Check.due("rule", 0, Texts.rule(x, "first ball if 1=2"));
    x.force(0);
    Check.due("none holds: ball 0 first, and stopped", 1, x.may(1));
    for (int i = 0; i < 8; i++) {
      Check.due("60 values and a fault", Texts.fault(126, 0), Texts.rule(x, "first 1" + "+1".repeat(59) + "+"));
    }
    Check.due("60 values", 1, Texts.rule(x, "first 1" + "+1".repeat(58) + "-ball"));
    x.force(1);
    Check.due("ball 1 first, by the last of them", 2, x.may(1));
  }

  static void promise5ComesWithoutABox() {
    BallBox x = new BallBox();
    Check.due("rule", 0, Texts.rule(x, "first ball"));
    Check.due("no box", 0, x.count(0));
  }

  static void promise5IsNotInForceByItself() {
    BallBox x = Texts.boxed("row ....;ball 0 0;ball 1 0");
    Check.due("rule", 0, Texts.rule(x, "first ball"));
    Check.due("count(7)", -1, x.count(7));
    Check.due("the furthest first", 2, x.may(1));
  }

  static void promise5LeavesAllElse() {
    BallBox x = Bases.rich();
    Texts.rule(x, "first ball*0");
    BallBox y = Bases.rich();
    y.end(0);
    String due = Whole.of(y);
    String got = Whole.of(x);
    // Of the lines only those of the rules and of how many there are may differ.
    Check.same("behind a rule", withoutRules(due), withoutRules(got));
  }

  private static String withoutRules(String lines) {
    StringBuilder kept = new StringBuilder();
    for (String line : lines.split("\n")) {
      if (!line.startsWith("force") && !line.startsWith("by rule") && !line.contains("count(6)")) {
        kept.append(line).append('\n');
      }
    }
    return kept.toString();
  }

  static void promise5RulesStayApart() {
    BallBox x = Texts.boxed("row ....;ball 0 0;ball 1 0");
    for (int i = 0; i < 6; i++) {
      Texts.rule(x, i % 2 == 0 ? "first ball" : "first 0-ball");
    }
    for (int i = 0; i < 6; i++) {
      x.force(i);
      Check.due("by rule " + i, i % 2 == 0 ? 1 : 2, x.may(1));
    }
  }
}

/** Promise 3: end. */
public final class Promise03EndTest {
  public static void main(String[] args) {
    Check.run(Promise03EndTest.class);
  }

  static void promise3TakesAsManyAsThereAre() {
    BallBox x = Bases.full();
    Check.due("end(400)", 400, x.end(400));
    Check.due("count(12)", 400, x.count(12));
    Bases.leaves("end of all bytes", Bases::rich, Bases.TAPE_BOX.length(), y -> y.end(Bases.TAPE_BOX.length()));
  }

  static void promise3TakesNone() {
    BallBox x = Bases.full();
    Check.due("end(0)", 0, x.end(0));
    Check.due("count(12)", 0, x.count(12));
    Check.due("end(0) again", 0, x.end(0));
    Check.due("end(1)", -1, x.end(1));
  }

  static void promise3RefusesOneMoreThanThereAre() {
    int n = Bases.TAPE_BOX.length() + 1;
    Bases.leaves("end(" + n + ")", Bases::rich, -1, x -> x.end(n));
    Bases.leaves("end(401)", Bases::full, -1, x -> x.end(401));
    Bases.leaves("end(1) of an empty tape", Bases::fresh, -1, x -> x.end(1));
    Bases.leaves("end of the greatest number", Bases::rich, -1, x -> x.end(Integer.MAX_VALUE));
  }

  static void promise3RefusesBelowZero() {
    Bases.leaves("end(-1)", Bases::rich, -1, x -> x.end(-1));
    Bases.leaves("end of the least number", Bases::rich, -1, x -> x.end(Integer.MIN_VALUE));
  }

  static void promise3LeavesTheFirstBytesAlone() {
    BallBox x = new BallBox();
    Texts.tell(x, "row .#..");
    Check.due("end(6)", 6, x.end(6));
    Check.due("box()", 0, x.box());
    Check.due("columns", 2, x.count(0));
    Check.due("walls", 1, x.count(13));
  }

  static void promise3WhatStoodBehindDoesNotComeBack() {
    BallBox x = new BallBox();
    Texts.tell(x, "row .#..");
    x.end(5);
    Check.due("end(6) then", -1, x.end(6));
    Check.due("feed behind 5", 25, x.feed(0x2E2E2020, 0x20202020, 0x20202020, 0x20202020, 0x20202020));
    Check.due("box()", 0, x.box());
    Check.due("columns", 3, x.count(0));
    Check.due("walls", 0, x.count(13));
  }

  /** Signs, digits, letters and blanks behind the end are not read, where they could go on. */
  static void promise3NothingBehindTheEndIsRead() {
    BallBox x = new BallBox();
    cut(x, "row ....;ball 0 0", 6);
    Check.due("signs", 0, x.box());
    Check.due("columns", 2, x.count(0));
    cut(x, "row ..;ball 1 05", 14);
    Check.due("the first digit", Texts.fault(14, 0), x.box());
    cut(x, "row ..;ball 0 01", 15);
    Check.due("one more digit", 1, x.box());
    cut(x, "rows", 3);
    Check.due("a letter", Texts.fault(3, 0), x.box());
    cut(x, "row ", 3);
    Check.due("a blank", Texts.fault(3, 0), x.box());
    cut(x, "first xy", 7);
    Check.due("a letter of a rule", 0, x.rule());
    cut(x, "first 1234567", 11);
    Check.due("digits of a rule", 1, x.rule());
    cut(x, "first x if x<=1", 13);
    Check.due("= behind <", Texts.fault(13, 0), x.rule());
  }

  private static void cut(BallBox x, String text, int n) {
    Texts.tell(x, text);
    Check.due("end " + n, n, x.end(n));
  }
}

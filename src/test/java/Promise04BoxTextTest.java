/** Promise 4 and the terms of a box: what is told, and the faults. */
public final class Promise04BoxTextTest {
  private static final int UNFIT = 0;
  private static final int NUMBER = 1;
  private static final int TOO_MANY = 4;
  private static final int CELL = 5;

  public static void main(String[] args) {
    Check.run(Promise04BoxTextTest.class);
  }

  private static BallBox isBox(int balls, String text) {
    BallBox x = new BallBox();
    Check.due(text, balls, Texts.box(x, text));
    return x;
  }

  private static void fault(int place, int kind, String text) {
    Check.due(text, Texts.fault(place, kind), Texts.box(new BallBox(), text));
  }

  static void promise4RowOfOneSign() {
    BallBox x = isBox(0, "row .");
    Check.due("columns", 1, x.count(0));
    Check.due("rows", 1, x.count(1));
  }

  static void promise4RowOfSixSigns() {
    Check.due("columns", 6, isBox(0, "row ......").count(0));
    Check.due("columns", 6, isBox(0, "row #1.2.3").count(0));
  }

  static void promise4RowOfNoSign() {
    fault(3, UNFIT, "row");
    fault(5, UNFIT, "row  ");
    fault(4, UNFIT, "row ;");
    fault(4, UNFIT, "row ;row .");
    fault(10, UNFIT, "row .;row ;");
  }

  static void promise4RowOfSevenSigns() {
    fault(10, CELL, "row .......");
    fault(10, CELL, "row ........");
    fault(10, CELL, "row ......#x");
    fault(10, CELL, "row .....1.");
    fault(21, CELL, "row ......;row .......");
    fault(17, CELL, "row ..;row .........");
  }

  static void promise4SeventhByteThatIsNoSign() {
    fault(10, UNFIT, "row ......x");
    fault(11, UNFIT, "row ...... .");
  }

  static void promise4EachSignTellsItsCell() {
    BallBox x = isBox(0, "row .#123");
    for (int i = 0; i < 5; i++) {
      Check.due("cell " + i, i, x.cell(i, 0, 0));
    }
  }

  static void promise4BytesBesideTheSigns() {
    String beside = "-/\"$04:x*";
    for (int i = 0; i < beside.length(); i++) {
      fault(4, UNFIT, "row " + beside.charAt(i));
      fault(5, UNFIT, "row ." + beside.charAt(i));
    }
  }

  static void promise4NoBlanksBetweenSigns() {
    fault(6, UNFIT, "row . .");
    fault(7, UNFIT, "row .. #");
  }

  static void promise4SixRows() {
    BallBox x = isBox(0, "row .;row #;row .;row #;row .;row #");
    Check.due("rows", 6, x.count(1));
    Check.due("the last one", 1, x.cell(0, 5, 0));
  }

  static void promise4SeventhRow() {
    fault(36, TOO_MANY, "row .;row .;row .;row .;row .;row .;row .");
    fault(37, TOO_MANY, "row .;row .;row .;row .;row .;row .; row");
    fault(36, UNFIT, "row .;row .;row .;row .;row .;row .;rows .");
  }

  static void promise4SixRowsOfSixAndThreeBalls() {
    BallBox x = isBox(3, "row 1....#;row .2....;row ..3...;row ......;row ......;row ......;ball 5 5;ball 1 0;ball 0 1");
    Check.due("columns", 6, x.count(0));
    Check.due("rows", 6, x.count(1));
    Check.due("the last cell", 0, x.cell(5, 5, 1));
    Check.due("ball 2", 2, x.cell(0, 1, 1));
  }

  static void promise4TenthClause() {
    String nine = "row ...;row ...;row ...;row ...;row ...;row ...;ball 0 0;ball 1 0;ball 2 0";
    isBox(3, nine);
    fault(nine.length() + 1, TOO_MANY, nine + ";row ...");
    fault(nine.length() + 1, TOO_MANY, nine + ";ball 0 1");
    fault(nine.length() + 1, UNFIT, nine + ";first");
    fault(nine.length() + 1, UNFIT, nine + ";");
  }

  static void promise4ThirteenthClause() {
    // A seventh row and a fourth ball come ahead of it, whatever is told.
    fault(36, TOO_MANY, "row .;".repeat(12) + "row .");
    fault(35, TOO_MANY, "row ...;ball 0 0;ball 1 0;ball 2 0;" + "ball 0 0;".repeat(8) + "ball 0 0");
  }

  static void promise4RowShorterThanTheFirst() {
    fault(11, CELL, "row ..;row .");
    fault(18, CELL, "row ..;row ..;row #");
    fault(11, CELL, "row ..;row .;row ..");
  }

  static void promise4RowLongerThanTheFirst() {
    fault(13, CELL, "row ..;row ...");
    fault(15, CELL, "row .;row .....#");
    fault(11, CELL, "row .;row ..");
  }

  static void promise4RowOfAnotherLengthAheadOfAWrongByte() {
    fault(11, CELL, "row ..;row .,");
    fault(11, CELL, "row ..;row . ,");
    fault(13, CELL, "row ..;row ...x");
  }

  static void promise4RowBehindABall() {
    fault(16, TOO_MANY, "row ..;ball 0 0;row ..");
    fault(17, TOO_MANY, "row ..;ball 0 0; row");
    fault(16, UNFIT, "row ..;ball 0 0;ro ..");
  }

  static void promise4BallAheadOfAllRows() {
    fault(0, TOO_MANY, "ball 0 0");
    fault(2, TOO_MANY, "  ball");
    fault(0, TOO_MANY, "ball 0 0;row .");
  }

  static void promise4FourthBall() {
    isBox(3, "row ....;ball 0 0;ball 1 0;ball 2 0");
    fault(36, TOO_MANY, "row ....;ball 0 0;ball 1 0;ball 2 0;ball 3 0");
    fault(36, TOO_MANY, "row ....;ball 0 0;ball 1 0;ball 2 0;ball 9 9");
    fault(36, UNFIT, "row ....;ball 0 0;ball 1 0;ball 2 0;balls 3 0");
  }

  static void promise4BallOnEachCorner() {
    String six = "row ......;row ......;row ......;row ......;row ......;row ......;";
    Check.due("x 0, y 0", 0, isBox(1, six + "ball 0 0").cell(0, 0, 1));
    Check.due("x 5, y 0", 0, isBox(1, six + "ball 5 0").cell(5, 0, 1));
    Check.due("x 0, y 5", 0, isBox(1, six + "ball 0 5").cell(0, 5, 1));
    Check.due("x 5, y 5", 0, isBox(1, six + "ball 5 5").cell(5, 5, 1));
  }

  static void promise4NumberAboveFive() {
    fault(12, NUMBER, "row ..;ball 6 0");
    fault(14, NUMBER, "row ..;ball 0 6");
    fault(12, NUMBER, "row ..;ball 99999 0");
    fault(13, NUMBER, "row ..;ball  00006 0");
    fault(14, NUMBER, "row ..;ball 0 10");
  }

  static void promise4NumberOfFiveDigits() {
    Check.due("x 1", 0, isBox(1, "row ..;ball 00001 00000").cell(1, 0, 1));
  }

  static void promise4NumberOfSixDigits() {
    fault(12, NUMBER, "row ..;ball 000001 0");
    fault(14, NUMBER, "row ..;ball 0 000000");
    fault(12, NUMBER, "row ..;ball 9999999999999999999999 0");
  }

  static void promise4NumberMissing() {
    fault(11, UNFIT, "row ..;ball");
    fault(13, UNFIT, "row ..;ball 0");
    fault(14, UNFIT, "row ..;ball 0 ");
    fault(14, UNFIT, "row ..;ball 00");
    fault(12, UNFIT, "row ..;ball ;");
    fault(13, UNFIT, "row ..;ball 0;");
    fault(12, UNFIT, "row ..;ball x 0");
    fault(14, UNFIT, "row ..;ball 0 x");
    fault(12, UNFIT, "row ..;ball -1 0");
    fault(12, UNFIT, "row ..;ball :/ 0");
    fault(12, UNFIT, "row ..;ball /: 0");
  }

  static void promise4NumberTooMany() {
    fault(16, UNFIT, "row ..;ball 0 0 0");
    fault(15, UNFIT, "row ..;ball 0 0x");
  }

  static void promise4CellNotInTheBox() {
    isBox(1, "row ..;row ..;ball 1 1");
    fault(19, CELL, "row ..;row ..;ball 2 1");
    fault(19, CELL, "row ..;row ..;ball 1 2");
    fault(19, CELL, "row ..;row ..;ball 5 5");
  }

  static void promise4CellNotPlain() {
    fault(14, CELL, "row .#13;ball 1 0");
    fault(14, CELL, "row .#13;ball 2 0");
    fault(15, CELL, "row .#13;ball  3 0");
    fault(14, CELL, "row 2...;ball 0 0");
  }

  static void promise4CellTaken() {
    isBox(2, "row ..;ball 1 0;ball 0 0");
    fault(21, CELL, "row ..;ball 1 0;ball 1 0");
    fault(31, CELL, "row ...;ball 1 0;ball 0 0;ball 1 0");
    fault(31, CELL, "row ...;ball 1 0;ball 0 0;ball 0 0");
  }

  static void promise4CellIsToldAsSoonAsYIs() {
    fault(13, UNFIT, "row ..;ball 2");
    fault(14, UNFIT, "row ..;ball 2 ,");
    fault(14, NUMBER, "row ..;ball 2 6");
    fault(14, NUMBER, "row ..;ball 2 000000");
    fault(12, CELL, "row ..;ball 2 0,");
    fault(12, CELL, "row ..;ball 2   0");
    fault(12, CELL, "row ..;ball 2 0;ball 6 6");
  }

  static void promise4EachHoleAtMostOnce() {
    isBox(0, "row 123");
    for (int hole = 1; hole <= 3; hole++) {
      fault(5, CELL, "row " + hole + hole);
      fault(6, CELL, "row " + hole + "." + hole);
      fault(12, CELL, "row ." + hole + ";row ." + hole);
      fault(11, CELL, "row ." + hole + ";row " + hole + "..");
      fault(18, CELL, "row ." + hole + ";row ..;row " + hole);
    }
  }

  static void promise4HoleMayBeMissing() {
    BallBox x = isBox(2, "row .2.;ball 0 0;ball 2 0");
    Check.due("ball 0 has none", -1, x.ball(0, 3));
    Check.due("ball 1 has one", 1, x.ball(1, 3));
    isBox(3, "row ...;ball 0 0;ball 2 0;ball 1 0");
  }

  static void promise4HoleOfABallThatIsNot() {
    BallBox x = isBox(1, "row .3.;ball 0 0");
    Check.due("a hole", 4, x.cell(1, 0, 0));
    Check.due("ball 0 is lost in it", 10, x.tip(1));
    Check.due("lost", 1, x.count(4));
  }

  static void promise4BallsInTheOrderTold() {
    BallBox x = isBox(3, "row ...;ball 2 0;ball 0 0;ball 1 0");
    Check.due("ball 0", 2, x.ball(0, 0));
    Check.due("ball 1", 0, x.ball(1, 0));
    Check.due("ball 2", 1, x.ball(2, 0));
  }

  static void promise4TheEndBehindTheLastByte() {
    fault(0, UNFIT, "");
    fault(3, UNFIT, "   ");
    fault(7, UNFIT, "row ..;");
    fault(9, UNFIT, "row ..;  ");
    fault(16, UNFIT, "row ..;ball 0 0;");
  }

  static void promise4WordsThatCanNotStandThere() {
    fault(0, UNFIT, "ro .");
    fault(0, UNFIT, "rows .");
    fault(0, UNFIT, "rowx.");
    fault(0, UNFIT, "tow .");
    fault(0, UNFIT, "Row .");
    fault(0, UNFIT, "first 1");
    fault(6, UNFIT, "row .;call 0 0");
    fault(6, UNFIT, "row .;bal 0 0");
    fault(6, UNFIT, "row .;balls 0 0");
    fault(8, UNFIT, "row .;  \t");
    fault(0, UNFIT, ";row .");
    fault(1, UNFIT, " .");
    fault(1, UNFIT, " 1");
    fault(6, UNFIT, "row ..row ..");
    fault(7, UNFIT, "row .. row ..");
    fault(7, UNFIT, "row ..;;row ..");
    fault(0, UNFIT, "r".repeat(400));
  }

  static void promise4LettersAreSmallOnes() {
    fault(3, UNFIT, "row`.");
    fault(3, UNFIT, "row{.");
    fault(3, UNFIT, "rowA.");
  }

  static void promise4BlanksAsOneLikes() {
    isBox(1, "row..;ball0 0");
    isBox(1, "  row   .. ;  ball  1   0  ");
    isBox(1, "row .;row 1;ball0  0");
  }

  static void promise4OtherBytesAreNoBlanks() {
    int[] bytes = {0, 9, 10, 13, 31, 33, 160, 255};
    for (int b : bytes) {
      fault(3, UNFIT, "row" + (char) b + ".");
      fault(5, UNFIT, "row ." + (char) b);
    }
  }

  static void promise4TextOf400Bytes() {
    String text = "row ..;ball" + " ".repeat(386) + "1 0";
    Check.due("its bytes", 400, text.length());
    isBox(1, text);
    fault(400, UNFIT, " ".repeat(400));
    fault(10, CELL, "row " + ".".repeat(396));
    fault(400, UNFIT, "row ." + " ".repeat(394) + ";");
  }

  static void promise4TheFirstFaultAlongTheText() {
    fault(4, UNFIT, "row x;row .......;ball 9 9");
    fault(5, CELL, "row 11;ball 9 9;x");
    fault(12, CELL, "row ..;ball 4 0;ball 0 0;row ..");
    fault(12, NUMBER, "row ..;ball 7 9");
  }
}

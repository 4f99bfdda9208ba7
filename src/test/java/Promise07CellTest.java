/** Promise 7: cell. */
public final class Promise07CellTest {
  private static final String BOX = "row .#1;row 2.3;ball 1 1;ball 0 0";

  public static void main(String[] args) {
    Check.run(Promise07CellTest.class);
  }

  static void promise7EachKind() {
    BallBox x = Texts.boxed(BOX);
    int[] kinds = {0, 1, 2, 3, 0, 4};
    for (int i = 0; i < 6; i++) {
      Check.due("cell " + i, kinds[i], x.cell(i % 3, i / 3, 0));
    }
  }

  static void promise7WhoLiesThere() {
    BallBox x = Texts.boxed(BOX);
    int[] who = {1, -1, -1, -1, 0, -1};
    for (int i = 0; i < 6; i++) {
      Check.due("cell " + i, who[i], x.cell(i % 3, i / 3, 1));
    }
  }

  static void promise7ABallThatFellLiesNowhere() {
    BallBox x = Texts.boxed("row .1;ball 0 0");
    x.tip(1);
    Check.due("where it lay", -1, x.cell(0, 0, 1));
    Check.due("in the hole", -1, x.cell(1, 0, 1));
    Check.due("outside, as those that fell", -1, x.cell(-1, -1, 1));
    Check.due("outside, as those that fell", -1, x.cell(6, -1, 1));
  }

  static void promise7LastCellAndFirstOutside() {
    BallBox x = Texts.boxed(BOX);
    Check.due("x 2", 2, x.cell(2, 0, 0));
    Check.due("x 3", -1, x.cell(3, 0, 0));
    Check.due("y 1", 3, x.cell(0, 1, 0));
    Check.due("y 2", -1, x.cell(0, 2, 0));
    Check.due("x -1", -1, x.cell(-1, 0, 0));
    Check.due("y -1", -1, x.cell(0, -1, 0));
    Check.due("x 3, who", -1, x.cell(3, 1, 1));
  }

  static void promise7LastCellOfTheGreatestBox() {
    BallBox x = Texts.boxed("row .....#;row ......;row ......;row ......;row ......;row #....3;ball 0 4");
    Check.due("5, 0", 1, x.cell(5, 0, 0));
    Check.due("6, 0", -1, x.cell(6, 0, 0));
    Check.due("0, 5", 1, x.cell(0, 5, 0));
    Check.due("0, 6", -1, x.cell(0, 6, 0));
    Check.due("5, 5", 4, x.cell(5, 5, 0));
    Check.due("6, 5", -1, x.cell(6, 5, 0));
    Check.due("-1, 5", -1, x.cell(-1, 5, 0));
    Check.due("7, 3: not the next row's", -1, x.cell(7, 3, 1));
    Check.due("8, 3: not the next row's", -1, x.cell(8, 3, 1));
  }

  static void promise7FarOutside() {
    BallBox x = Texts.boxed(BOX);
    int[] far = {Integer.MAX_VALUE, Integer.MIN_VALUE, 1 << 29, -(1 << 29), 64, -64};
    for (int n : far) {
      Check.due("x " + n, -1, x.cell(n, 0, 0));
      Check.due("y " + n, -1, x.cell(0, n, 0));
      Check.due("both " + n, -1, x.cell(n, n, 1));
      Check.due("what " + n, -1, x.cell(1, 1, n));
    }
  }

  static void promise7OtherWhats() {
    BallBox x = Texts.boxed(BOX);
    Check.due("what -1", -1, x.cell(1, 1, -1));
    Check.due("what 2", -1, x.cell(1, 1, 2));
    Check.due("what 2 of a wall", -1, x.cell(1, 0, 2));
  }

  static void promise7WithoutABox() {
    Check.due("what 0", -1, new BallBox().cell(0, 0, 0));
    Check.due("what 1", -1, new BallBox().cell(0, 0, 1));
  }

  static void promise7NothingChanges() {
    Bases.leaves("cell(1, 1, 0)", Bases::rich, 1, x -> x.cell(1, 1, 0));
    Bases.leaves("cell(9, 9, 9)", Bases::rich, -1, x -> x.cell(9, 9, 9));
  }
}

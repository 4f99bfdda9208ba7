/** Promise 17: path. */
public final class Promise17PathTest {
  public static void main(String[] args) {
    Check.run(Promise17PathTest.class);
  }

  private static void path(BallBox x, int... ways) {
    for (int k = 0; k < ways.length; k++) {
      Check.due("path(" + k + ")", ways[k], x.path(k));
    }
    Check.due("path behind its end", -2, x.path(ways.length));
  }

  static void promise17EachWay() {
    path(Texts.boxed("row 1;row .;ball 0 1"), 0);
    path(Texts.boxed("row .1;ball 0 0"), 1);
    path(Texts.boxed("row .;row 1;ball 0 0"), 2);
    path(Texts.boxed("row 1.;ball 1 0"), 3);
  }

  static void promise17TheWaysByWhichItCameFirst() {
    path(Texts.boxed("row ..1;row ...;ball 0 1"), 0, 1);
    path(Texts.boxed("row 1..;row .#.;row ..2;ball 2 0;ball 0 2"), 1, 3);
    path(Texts.boxed("row .1;row ..;row .2;ball 0 0;ball 0 2"), 1);
  }

  static void promise17LastWayAndFirstThatIsNot() {
    BallBox x = Texts.boxed("row ..1;row ...;ball 0 1");
    Check.due("path(1)", 1, x.path(1));
    Check.due("path(2)", -2, x.path(2));
    Check.due("path of the greatest number", -2, x.path(Integer.MAX_VALUE));
  }

  static void promise17EmptyPath() {
    BallBox x = Texts.boxed("row .1;ball 0 0");
    x.tip(1);
    Check.due("path(0)", -2, x.path(0));
    Check.due("path(-1)", -1, x.path(-1));
  }

  static void promise17Never() {
    BallBox x = Texts.boxed("row .#1;ball 0 0");
    Check.due("path(0)", -2, x.path(0));
    Check.due("path(7)", -2, x.path(7));
    Check.due("path(-1)", -1, x.path(-1));
  }

  static void promise17Unknown() {
    BallBox x = Gadgets.told(
        "row .#....;row .....#;row ..##..;row #...#.;row .#...#;row ...#..;ball 1 5;ball 0 5;ball 1 2", "first ahead");
    Check.due("path(0)", -3, x.path(0));
    Check.due("path of the greatest number", -3, x.path(Integer.MAX_VALUE));
    Check.due("path(-1)", -1, x.path(-1));
  }

  static void promise17BelowZero() {
    Bases.leaves("path(-1)", Bases::rich, -1, x -> x.path(-1));
    Bases.leaves("path of the least number", Bases::rich, -1, x -> x.path(Integer.MIN_VALUE));
  }

  static void promise17WithoutABox() {
    Bases.leaves("path(0)", Bases::bare, -1, x -> x.path(0));
    Bases.leaves("path(-1)", Bases::bare, -1, x -> x.path(-1));
  }

  static void promise17NothingChanges() {
    Bases.leaves("path(0)", Bases::rich, 1, x -> x.path(0));
    Bases.leaves("path(1)", Bases::rich, 2, x -> x.path(1));
    Bases.leaves("path(2)", Bases::rich, -2, x -> x.path(2));
  }

  static void promise17ALongOneDoesIt() {
    BallBox x = Gadgets.told(
        "row 1.#...;row #....#;row .#....;row ...##.;row ..#...;row #.2#3#;ball 2 1;ball 3 1;ball 0 4", "first ahead");
    int[] ways = new int[24];
    for (int k = 0; k < ways.length; k++) {
      ways[k] = x.path(k);
    }
    Check.due("path(24)", -2, x.path(24));
    for (int k = 0; k < ways.length; k++) {
      Check.due("not all home ahead of its end", true, x.count(3) < 3);
      x.tip(ways[k]);
    }
    Check.due("all home", 3, x.count(3));
  }

  static void promise17TipsForARuleDoNotGrow() {
    path(Gadgets.turns(), 0, 1, 3);
  }

  static void promise17TipsForARuleAreThoseThereWere() {
    BallBox x = Gadgets.turns();
    x.tip(2);
    path(x, 0, 3, 1);
  }
}

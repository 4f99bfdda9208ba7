/** Promise 31: count. */
public final class Promise31CountTest {
  public static void main(String[] args) {
    Check.run(Promise31CountTest.class);
  }

  private static void counts(BallBox x, int... due) {
    for (int what = 0; what < due.length; what++) {
      Check.due("count(" + what + ")", due[what], x.count(what));
    }
  }

  static void promise31OfANewObject() {
    counts(new BallBox(), 0, 0, 0, 0, 0, 0, 0, -1, 0, 0, 0, 0, 0, 0);
  }

  static void promise31OfAllThereIs() {
    counts(Bases.rich(), 4, 3, 3, 1, 0, 1, 2, 1, 2, 2, 1, 77, 24, 2);
  }

  static void promise31OfAFullObject() {
    counts(Bases.full(), 3, 2, 2, 0, 0, 1, 6, 5, 8, 8, 8, 2147483647, 400, 1);
  }

  static void promise31WithoutABox() {
    counts(Bases.bare(), 0, 0, 0, 0, 0, 0, 2, 1, 0, 0, 0, 9, 24, 0);
  }

  static void promise31ColumnsAndRows() {
    counts(Texts.boxed("row ......"), 6, 1);
    counts(Texts.boxed("row .;row .;row .;row .;row .;row ."), 1, 6);
  }

  static void promise31HomeAndLost() {
    counts(tipped("row .1;row .2;row .3;ball 0 0;ball 0 1;ball 0 2"), 2, 3, 3, 3, 0);
    counts(tipped("row .2;row .3;row .1;ball 0 0;ball 0 1;ball 0 2"), 2, 3, 3, 0, 3);
    counts(tipped("row .1;row .3;row ..;ball 0 0;ball 0 1;ball 0 2"), 2, 3, 3, 1, 1);
    counts(tipped("row .1;ball 0 0"), 2, 1, 1, 1, 0);
    counts(tipped("row .2;ball 0 0"), 2, 1, 1, 0, 1);
  }

  private static BallBox tipped(String box) {
    BallBox x = Texts.boxed(box);
    x.tip(1);
    return x;
  }

  static void promise31Walls() {
    Check.due("none", 0, Texts.boxed("row .1").count(13));
    Check.due("36", 36, Texts.boxed("row ######;row ######;row ######;row ######;row ######;row ######").count(13));
  }

  static void promise31TheRuleInForce() {
    BallBox x = Bases.full();
    Check.due("5", 5, x.count(7));
    x.force(0);
    Check.due("0", 0, x.count(7));
    x.force(-1);
    Check.due("none", -1, x.count(7));
  }

  static void promise31ManyTips() {
    BallBox x = Texts.boxed("row ..;ball 0 0");
    for (int i = 1; i <= 200; i++) {
      x.tip(i % 4);
      Check.due("tips", i, x.count(5));
    }
  }

  /** An object is used for at most 512 calls: the last of them still answers as it should. */
  static void promise31TheLastOf512Calls() {
    BallBox x = new BallBox();
    x.feed(0x726F7720, 0x2E2E3B62, 0x616C6C20, 0x30203000, 0);
    x.end(15);
    Check.due("the third call: box()", 1, x.box());
    for (int call = 4; call <= 509; call++) {
      Check.due("call " + call + ": tip", 1, x.tip(call % 2 == 0 ? 1 : 3));
    }
    Check.due("call 510: fewest()", -2, x.fewest());
    Check.due("call 511: image(0)", 506, x.image(0));
    Check.due("call 512: count(5)", 506, x.count(5));
  }

  static void promise31OtherWhats() {
    int[] others = {-1, 14, 15, Integer.MAX_VALUE, Integer.MIN_VALUE};
    for (int what : others) {
      Bases.leaves("count(" + what + ")", Bases::full, -1, x -> x.count(what));
    }
  }

  static void promise31NothingChanges() {
    Bases.leaves("count(13)", Bases::rich, 2, x -> x.count(13));
  }
}

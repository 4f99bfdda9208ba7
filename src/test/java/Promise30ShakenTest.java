/** Promise 30: shaken. */
public final class Promise30ShakenTest {
  private static final String SQUARE = "row ...;row ...;row ...;ball 0 0";

  public static void main(String[] args) {
    Check.run(Promise30ShakenTest.class);
  }

  private static BallBox seeded(String box, int x) {
    BallBox b = Texts.boxed(box);
    b.seed(x);
    return b;
  }

  private static void shaken(BallBox x, int m, int n, int home, int lost, int hits) {
    Check.due("home, " + m + " times " + n, home, x.shaken(m, n, 0));
    Check.due("lost, " + m + " times " + n, lost, x.shaken(m, n, 1));
    Check.due("hits, " + m + " times " + n, hits, x.shaken(m, n, 2));
  }

  /** From 0 on x becomes 12345, 1406932606, 654583775: draws 0, 21468, 9988, mod 4 all 0: up. */
  static void promise30TheFirstDraws() {
    shaken(seeded("row 1;row .;ball 0 1", 0), 1, 1, 1, 0, 0);
    shaken(seeded("row .1;ball 0 0", 0), 1, 3, 0, 0, 0);
  }

  /** From 32768 on, a draw ahead of the change would be 0: up; behind it, it is 2 mod 4: down. */
  static void promise30ADrawIsBehindTheChange() {
    shaken(seeded("row .;row 1;ball 0 0", 32768), 1, 1, 1, 0, 0);
    shaken(seeded("row 1;row .;ball 0 1", 32768), 1, 1, 0, 0, 0);
  }

  /** x at its greatest goes round: 2147483647 becomes 1043980748, a draw of 15929: right. */
  static void promise30TheGreatestXGoesRound() {
    shaken(seeded("row .1;ball 0 0", 2147483647), 1, 1, 1, 0, 0);
  }

  /** The same by real tips, with the draws worked out once more. */
  private static void byHand(String box, int seed, int m, int n) {
    BallBox x = Texts.boxed(box);
    x.image(0);
    long z = seed;
    int home = 0;
    int lost = 0;
    int hits = 0;
    for (int time = 0; time < m; time++) {
      x.back(0);
      for (int tip = 0; tip < n; tip++) {
        z = (z * 1103515245L + 12345L) % 2147483648L;
        hits += x.tip((int) (z / 65536 % 4)) % 10;
      }
      home += x.count(3) == x.count(2) ? 1 : 0;
      lost += x.count(4);
    }
    shaken(seeded(box, seed), m, n, home, lost, hits);
  }

  static void promise30EachWayByItsDraw() {
    int[] seeds = {0, 1, 2, 3, 12345, 65535, 65536, 1 << 30, 2147483646, 2147483647};
    for (int seed : seeds) {
      byHand(SQUARE, seed, 3, 9);
    }
  }

  static void promise30XGoesOnFromTimeToTime() {
    byHand(SQUARE, 5, 20, 4);
    byHand("row 1..;row .#.;row ..2;ball 2 0;ball 0 2", 9, 20, 3);
  }

  static void promise30SixtyTipsAreSixty() {
    byHand("row ......;row ......;row ......;row ......;row ......;row ......;ball 0 0;ball 2 2;ball 3 1", 8, 5, 60);
  }

  static void promise30FromNowOnEachTime() {
    // Home by the first tip up, so it must begin anew each time.
    shaken(seeded("row #1#;row #.#;row ###;ball 1 1", 3), 20, 60, 20, 0, 0);
    BallBox x = seeded("row #1#;row #.#;row ###;ball 1 1", 3);
    x.tip(0);
    shaken(x, 20, 60, 20, 0, 0);
  }

  static void promise30LostTogether() {
    shaken(seeded("row #2#;row #.#;row ###;ball 1 1", 3), 20, 60, 0, 20, 0);
    Check.due("two, twenty times", 40, seeded("row 3..;ball 1 0;ball 2 0", 0).shaken(20, 60, 1));
    byHand("row 3..;ball 1 0;ball 2 0", 0, 9, 20);
  }

  static void promise30LostBeforeCountsEachTime() {
    BallBox x = Texts.boxed("row .2;ball 0 0");
    x.tip(1);
    shaken(x, 7, 3, 0, 7, 0);
  }

  static void promise30WithoutBallsAllAreHome() {
    shaken(Texts.boxed("row ."), 1, 1, 1, 0, 0);
    shaken(Texts.boxed("row ."), 20, 60, 20, 0, 0);
  }

  static void promise30XIsAsItWas() {
    BallBox x = seeded(SQUARE, 12345);
    int hits = x.shaken(20, 60, 2);
    Check.due("count(11)", 12345, x.count(11));
    Check.due("again", hits, x.shaken(20, 60, 2));
  }

  static void promise30OneTimeAndTwenty() {
    Check.due("1", 0, seeded(SQUARE, 0).shaken(1, 1, 0));
    Check.due("20", 0, seeded(SQUARE, 0).shaken(20, 1, 0));
    int[] others = {0, -1, 21, Integer.MAX_VALUE, Integer.MIN_VALUE};
    for (int m : others) {
      Bases.leaves("shaken(" + m + ", 1, 0)", Bases::rich, -1, x -> x.shaken(m, 1, 0));
    }
  }

  static void promise30OneTipAndSixty() {
    Check.due("1", 0, seeded(SQUARE, 0).shaken(1, 1, 0));
    Check.due("60", 0, seeded(SQUARE, 0).shaken(1, 60, 0));
    int[] others = {0, -1, 61, Integer.MAX_VALUE, Integer.MIN_VALUE};
    for (int n : others) {
      Bases.leaves("shaken(1, " + n + ", 0)", Bases::rich, -1, x -> x.shaken(1, n, 0));
    }
  }

  static void promise30OtherWhats() {
    int[] others = {-1, 3, Integer.MAX_VALUE, Integer.MIN_VALUE};
    for (int what : others) {
      Bases.leaves("shaken(1, 1, " + what + ")", Bases::rich, -1, x -> x.shaken(1, 1, what));
    }
  }

  static void promise30WithoutABox() {
    for (int what = 0; what <= 2; what++) {
      int asked = what;
      Bases.leaves("shaken(1, 1, " + what + ")", Bases::bare, -1, x -> x.shaken(1, 1, asked));
    }
  }

  static void promise30NothingChanges() {
    for (int what = 0; what <= 2; what++) {
      int asked = what;
      Bases.leaves("shaken(20, 60, " + what + ")", Bases::rich, Bases.rich().shaken(20, 60, what), x -> x.shaken(20, 60, asked));
    }
  }

  static void promise30TipsForARuleDoNotGrow() {
    BallBox x = Gadgets.told("row 1..;ball 1 0;ball 2 0", "first 1-ball if tips=0;first ball");
    Check.due("none is lost", 0, x.shaken(2, 6, 1));
  }

  static void promise30TipsForARuleAreThoseThereWere() {
    BallBox x = Gadgets.told("row 1..;ball 1 0;ball 2 0", "first 1-ball if tips=0;first ball");
    x.tip(0);
    Check.due("one is lost", 1, x.shaken(2, 6, 1));
  }
}

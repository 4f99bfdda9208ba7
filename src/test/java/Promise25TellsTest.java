/** Promise 25: tells. */
public final class Promise25TellsTest {
  public static void main(String[] args) {
    Check.run(Promise25TellsTest.class);
  }

  private static void tells(BallBox x, int way, int most) {
    Check.due("the way", way, x.tells(0));
    Check.due("how many at most", most, x.tells(1));
  }

  static void promise25TheFewestAlike() {
    // Up: 2 roll, 3 don't. Right: 2 fall, 2 roll, 1 does not. Down: 1 falls, 2 roll, 2 don't. Left: 2 and 3.
    tells(Texts.boxed("row ...;row ..1;ball 0 0"), 1, 2);
  }

  static void promise25EachWay() {
    tells(Texts.boxed("row 1;row .;row #;row .;ball 0 1"), 0, 1);
    tells(Texts.boxed("row .#.1;ball 0 0"), 1, 1);
    tells(Texts.boxed("row .;row #;row .;row 1;ball 0 0"), 2, 1);
    tells(Texts.boxed("row 1.#.;ball 1 0"), 3, 1);
  }

  static void promise25OfSeveralTheLeast() {
    tells(Texts.boxed("row ..;row ..;ball 0 0"), 0, 2);
    tells(Texts.boxed("row ..;ball 0 0"), 1, 1);
    tells(Texts.boxed("row .;row .;ball 0 0"), 0, 1);
  }

  static void promise25HitsAndFallsAreNotTheSame() {
    // To the right it hits, does nothing, or falls, from each of three cells.
    tells(Texts.boxed("row ..#;row .1#;ball 0 0"), 1, 1);
  }

  static void promise25HomeAndLostSoundTheSame() {
    tells(Texts.boxed("row .1;row ##;row .2;ball 0 0;ball 0 2"), 0, 2);
  }

  static void promise25OneTipMoreBehindTheSounds() {
    BallBox x = Texts.boxed("row ...;row ..1;ball 0 0");
    x.sound(1, 1, 0);
    Check.due("it lies above at the right now: two fit", 2, x.fits(0));
    tells(x, 0, 2);
    // It is at the left or in the middle; behind a tip to the right both are at the right.
    BallBox y = Texts.boxed("row ...;ball 0 0");
    tells(y, 1, 2);
    y.sound(1, 1, 0);
    tells(y, 0, 2);
  }

  static void promise25OneFits() {
    BallBox x = Texts.boxed("row .;ball 0 0");
    tells(x, 0, 1);
  }

  static void promise25WithoutBalls() {
    tells(Texts.boxed("row ."), 0, 1);
  }

  static void promise25NothingFits() {
    BallBox x = Texts.boxed("row ..;ball 0 0");
    x.sound(0, 1, 0);
    tells(x, -2, -2);
  }

  static void promise25WithoutAnyBeginning() {
    BallBox x = Texts.boxed("row .1;ball 0 0");
    x.tip(1);
    x.wall(0, 0, true);
    tells(x, -2, -2);
  }

  static void promise25BehindEightSounds() {
    BallBox x = Texts.boxed("row ...;ball 0 0");
    for (int i = 0; i < 8; i++) {
      x.sound(0, 0, 0);
    }
    tells(x, 1, 2);
  }

  static void promise25AsFitsWasAskedAheadOfIt() {
    BallBox x = Texts.boxed("row ...;row ..1;ball 0 0");
    Check.due("fits", 5, x.fits(0));
    tells(x, 1, 2);
    Check.due("fits", 5, x.fits(0));
    Check.due("where", 7 | 3 << 6, x.where(0));
  }

  static void promise25OtherWhats() {
    int[] others = {-1, 2, Integer.MAX_VALUE, Integer.MIN_VALUE};
    for (int what : others) {
      Bases.leaves("tells(" + what + ")", Bases::rich, -1, x -> x.tells(what));
    }
  }

  static void promise25WithoutABox() {
    Bases.leaves("tells(0)", Bases::bare, -1, x -> x.tells(0));
    Bases.leaves("tells(1)", Bases::bare, -1, x -> x.tells(1));
  }

  static void promise25NothingChanges() {
    Bases.leaves("tells(0)", Bases::rich, Bases.rich().tells(0), x -> x.tells(0));
    Bases.leaves("tells(1)", Bases::rich, Bases.rich().tells(1), x -> x.tells(1));
  }

  static void promise25TipsForARuleDoNotGrow() {
    BallBox x = Gadgets.told("row 1...;ball 2 0;ball 3 0", "first 1-ball if tips=0;first ball");
    x.sound(1, 1, 0);
    tells(x, 1, 2);
  }

  static void promise25TipsForARuleAreThoseThereWere() {
    // Ball 0 first, one or both fall to the right; the one at the right first, both do.
    BallBox x = Gadgets.told("row ..1;ball 0 0;ball 1 0", "first ball if tips=0;first 0-x");
    tells(x, 1, 1);
    x.tip(0);
    tells(x, 0, 2);
  }
}

/** Promise 22: sound. */
public final class Promise22SoundTest {
  public static void main(String[] args) {
    Check.run(Promise22SoundTest.class);
  }

  private static void refused(int way, int hits, int falls) {
    Bases.leaves("sound(" + way + ", " + hits + ", " + falls + ")", Bases::rich, -2, x -> x.sound(way, hits, falls));
  }

  static void promise22AnswersHowMany() {
    BallBox x = Texts.boxed("row .;ball 0 0");
    for (int i = 1; i <= 8; i++) {
      Check.due("sound " + i, i, x.sound(i % 4, 0, 0));
      Check.due("count(9)", i, x.count(9));
    }
  }

  static void promise22NinthIsRefused() {
    Bases.leaves("a ninth", Bases::full, -2, x -> x.sound(0, 0, 0));
    Bases.leaves("a ninth", Bases::full, -2, x -> x.sound(3, 1, 2));
  }

  static void promise22FirstAndLastWay() {
    Check.due("way 0", 1, Texts.boxed("row .").sound(0, 0, 0));
    Check.due("way 3", 1, Texts.boxed("row .").sound(3, 0, 0));
  }

  static void promise22OtherWays() {
    refused(4, 0, 0);
    refused(-2, 0, 0);
    refused(Integer.MAX_VALUE, 0, 0);
    refused(Integer.MIN_VALUE, 0, 0);
  }

  static void promise22HitsFromZeroToThree() {
    Check.due("none", 1, Texts.boxed("row .").sound(0, 0, 0));
    Check.due("three", 1, Texts.boxed("row .").sound(0, 3, 0));
    refused(0, 4, 0);
    refused(0, -1, 0);
    refused(0, Integer.MAX_VALUE, 0);
    refused(0, Integer.MIN_VALUE, 0);
  }

  static void promise22FallsFromZeroToThree() {
    Check.due("three", 1, Texts.boxed("row .").sound(0, 0, 3));
    refused(0, 0, 4);
    refused(0, 0, -1);
    refused(0, 0, Integer.MAX_VALUE);
    refused(0, 0, Integer.MIN_VALUE);
  }

  static void promise22ThreeTogetherAtMost() {
    BallBox x = Texts.boxed("row .");
    Check.due("2 and 1", 1, x.sound(0, 2, 1));
    Check.due("1 and 2", 2, x.sound(0, 1, 2));
    Check.due("1 and 1", 3, x.sound(0, 1, 1));
    refused(0, 2, 2);
    refused(0, 1, 3);
    refused(0, 3, 1);
    refused(0, 3, 3);
    refused(0, 4, -1);
    refused(0, -1, 4);
    refused(0, Integer.MAX_VALUE, Integer.MAX_VALUE);
    refused(0, Integer.MIN_VALUE, Integer.MIN_VALUE);
  }

  static void promise22MoreThanThereAreBalls() {
    BallBox x = Texts.boxed("row ..;ball 0 0");
    Check.due("three hits of one ball", 1, x.sound(1, 3, 0));
    Check.due("nothing fits", 0, x.fits(0));
  }

  static void promise22NoneMakesThemNone() {
    BallBox x = Bases.full();
    Check.due("sound(-1)", 0, x.sound(-1, 0, 0));
    Check.due("count(9)", 0, x.count(9));
    Check.due("sound(-1) again", 0, x.sound(-1, 0, 0));
    Check.due("the next one", 1, x.sound(0, 0, 0));
  }

  static void promise22NoneWhateverWasHeard() {
    int[][] heard = {{9, 9}, {-1, -1}, {Integer.MAX_VALUE, 1}, {0, Integer.MIN_VALUE}};
    for (int[] h : heard) {
      BallBox x = Bases.rich();
      Check.due("sound(-1, " + h[0] + ", " + h[1] + ")", 0, x.sound(-1, h[0], h[1]));
      Check.due("count(9)", 0, x.count(9));
    }
  }

  static void promise22NoneWithoutABox() {
    Bases.leaves("sound(-1, 0, 0)", Bases::bare, 0, x -> x.sound(-1, 0, 0));
  }

  static void promise22WithoutABoxItIsRefused() {
    Bases.leaves("sound(0, 0, 0)", Bases::bare, -2, x -> x.sound(0, 0, 0));
    Bases.leaves("sound(3, 1, 1)", Bases::fresh, -2, x -> x.sound(3, 1, 1));
  }

  static void promise22NothingElseChanges() {
    BallBox x = Bases.rich();
    x.sound(0, 0, 0);
    x.sound(-1, 0, 0);
    x.sound(3, 1, 1);
    x.sound(1, 1, 0);
    Check.same("the same sounds again", Whole.of(Bases.rich()), Whole.of(x));
  }

  static void promise22WhatWasReckonedIsReckonedAnew() {
    BallBox x = Texts.boxed("row ..1;row ...;ball 0 0");
    Check.due("fits", 5, x.fits(0));
    Check.due("tells", 2, x.tells(1));
    x.sound(1, 0, 1);
    Check.due("fits", 2, x.fits(0));
    Check.due("where", 3, x.where(0));
    x.sound(-1, 0, 0);
    Check.due("fits", 5, x.fits(0));
  }
}

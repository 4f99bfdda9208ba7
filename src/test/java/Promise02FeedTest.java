/** Promise 2: feed. */
public final class Promise02FeedTest {
  public static void main(String[] args) {
    Check.run(Promise02FeedTest.class);
  }

  private static BallBox withBytes(int n) {
    BallBox x = new BallBox();
    for (int fed = 0; fed < n; fed += 20) {
      x.feed(0, 0, 0, 0, 0);
    }
    x.end(n);
    return x;
  }

  static void promise2AnswersHowManyTheTapeHas() {
    BallBox x = new BallBox();
    for (int i = 1; i <= 20; i++) {
      Check.due("feed " + i, 20 * i, x.feed(0, 0, 0, 0, 0));
      Check.due("count(12)", 20 * i, x.count(12));
    }
  }

  static void promise2ComesBehindWhatIsThere() {
    BallBox x = withBytes(7);
    Check.due("feed behind 7 bytes", 27, x.feed(0, 0, 0, 0, 0));
  }

  /** "row 12;row #.;row 3.": each of the twenty bytes tells. */
  static void promise2TakesTheHighestByteFirst() {
    BallBox x = new BallBox();
    x.feed(0x726F7720, 0x31323B72, 0x6F772023, 0x2E3B726F, 0x7720332E);
    Check.due("box()", 0, x.box());
    int[] kinds = {2, 3, 1, 0, 4, 0};
    for (int i = 0; i < kinds.length; i++) {
      Check.due("cell " + i, kinds[i], x.cell(i % 2, i / 2, 0));
    }
  }

  static void promise2TakesTheNextTwentyBehindTheFirst() {
    BallBox x = new BallBox();
    x.feed(0x726F7720, 0x31323B72, 0x6F772023, 0x2E3B726F, 0x7720332E);
    x.feed(0x3B62616C, 0x6C203120, 0x31202020, 0x20202020, 0x20202020);
    Check.due("box()", 1, x.box());
    Check.due("who lies at 1, 1", 0, x.cell(1, 1, 1));
  }

  static void promise2TakesBytesUpTo255() {
    int[] bytes = {0, 1, 127, 128, 254, 255};
    for (int b : bytes) {
      BallBox x = new BallBox();
      x.feed(0x726F7720, 0x2E000000 | b << 16, 0, 0, 0);
      x.end(6);
      Check.due("byte " + b + " can't stand there", Texts.fault(5, 0), x.box());
    }
    BallBox x = new BallBox();
    x.feed(0xF26F7720, 0x2E000000, 0, 0, 0);
    x.end(5);
    Check.due("a byte that is 'r' but for its highest bit", Texts.fault(0, 0), x.box());
  }

  static void promise2FillsTheTapeTo400() {
    Check.due("feed at 380", 400, withBytes(380).feed(0, 0, 0, 0, 0));
    Check.due("feed at 379", 399, withBytes(379).feed(0, 0, 0, 0, 0));
  }

  static void promise2RefusesWhatWouldMakeIt401() {
    BallBox x = withBytes(381);
    Check.due("feed at 381", -1, x.feed(0, 0, 0, 0, 0));
    Check.due("count(12)", 381, x.count(12));
  }

  static void promise2RefusedBringsNoneOfItsBytes() {
    BallBox x = new BallBox();
    Texts.tell(x, "row ." + " ".repeat(376));
    Check.due("feed at 381", -1, x.feed(0x2E2E2E2E, 0x2E2E2E2E, 0x2E2E2E2E, 0x2E2E2E2E, 0x2E2E2E2E));
    Check.due("box()", 0, x.box());
    Check.due("columns", 1, x.count(0));
  }

  static void promise2RefusedAtAFullTapeLeavesAll() {
    Bases.leaves("feed at 400", Bases::full, -1, x -> x.feed(1, 2, 3, 4, 5));
  }

  static void promise2ComesAnewBehindTheRefusedOne() {
    BallBox x = withBytes(400);
    Check.due("feed at 400", -1, x.feed(0, 0, 0, 0, 0));
    x.end(380);
    Check.due("feed at 380", 400, x.feed(0, 0, 0, 0, 0));
  }
}

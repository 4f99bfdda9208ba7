/** Feeds whole texts, and counts what is not as due. */
final class Texts {
  private Texts() {}

  static int[] packed(String text) {
    int[] numbers = new int[(text.length() + 19) / 20 * 5];
    for (int i = 0; i < text.length(); i++) {
      numbers[i / 4] |= (text.charAt(i) & 255) << 24 - 8 * (i % 4);
    }
    return numbers;
  }

  /** Puts the text in place of what the tape has. */
  static void tell(BallBox x, String text) {
    x.end(0);
    int[] n = packed(text);
    for (int i = 0; i < n.length; i += 5) {
      x.feed(n[i], n[i + 1], n[i + 2], n[i + 3], n[i + 4]);
    }
    x.end(text.length());
  }

  static int box(BallBox x, String text) {
    tell(x, text);
    return x.box();
  }

  static int rule(BallBox x, String text) {
    tell(x, text);
    return x.rule();
  }

  static BallBox boxed(String text) {
    BallBox x = new BallBox();
    if (box(x, text) < 0) {
      throw new IllegalStateException("not a box: " + text);
    }
    return x;
  }

  /** What box or rule answers to a fault. */
  static int fault(int place, int kind) {
    return -2 - (1 + 8 * place + kind);
  }
}

/** Counts answers that are not as due; ends a test. */
final class Check {
  private static int wrong;
  private static int asked;

  private Check() {}

  static void due(String call, long want, long got) {
    asked++;
    if (got != want) {
      wrong++;
      System.out.println(call + " answered " + got + ", due is " + want);
    }
  }

  static void due(String call, boolean want, boolean got) {
    due(call, want ? 1 : 0, got ? 1 : 0);
  }

  static void finish(String name) {
    System.out.println(name + ": " + asked + " asked, " + wrong + " not as due");
    if (wrong != 0) {
      System.exit(1);
    }
  }
}

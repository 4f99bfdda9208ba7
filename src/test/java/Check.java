import java.lang.reflect.InvocationTargetException;
import java.lang.reflect.Method;
import java.util.Arrays;
import java.util.Comparator;

/** Runs the tests of a class, each by its own name, and counts answers that are not as due. */
final class Check {
  private static final int LONGEST_SECONDS = 120;
  private static volatile String test = "";
  private static int wrong;
  private static int asked;

  private Check() {}

  static void due(String call, long want, long got) {
    asked++;
    if (got != want) {
      say(call + " answered " + got + ", due is " + want);
    }
  }

  static void due(String call, boolean want, boolean got) {
    due(call, want ? 1 : 0, got ? 1 : 0);
  }

  static void same(String what, String want, String got) {
    asked++;
    if (got.equals(want)) {
      return;
    }
    String[] wants = want.split("\n");
    String[] gots = got.split("\n");
    int at = 0;
    while (at < wants.length && at < gots.length && wants[at].equals(gots[at])) {
      at++;
    }
    say(what + ": " + (at < gots.length ? gots[at] : "less") + ", due is " + (at < wants.length ? wants[at] : "less"));
  }

  private static void say(String what) {
    wrong++;
    System.out.println((test.isEmpty() ? "" : test + ": ") + what);
  }

  /** A call that does not end is a failure, too. */
  private static void watch() {
    Thread watcher = new Thread(() -> {
      try {
        Thread.sleep(LONGEST_SECONDS * 1000L);
      } catch (InterruptedException e) {
        return;
      }
      System.out.println(test + ": did not end");
      Runtime.getRuntime().halt(1);
    });
    watcher.setDaemon(true);
    watcher.start();
  }

  /** Each static method without arguments whose name begins with "promise" is a test. */
  static void run(Class<?> tests) {
    Method[] all = tests.getDeclaredMethods();
    Arrays.sort(all, Comparator.comparing(Method::getName));
    watch();
    int ran = 0;
    for (Method m : all) {
      if (m.getName().startsWith("promise") && m.getParameterCount() == 0) {
        ran++;
        runOne(m);
      }
    }
    System.out.println(tests.getSimpleName() + ": " + ran + " tests, " + asked + " asked, " + wrong + " not as due");
    if (wrong != 0 || ran == 0) {
      System.exit(1);
    }
  }

  private static void runOne(Method m) {
    test = m.getName();
    int before = asked;
    try {
      m.setAccessible(true);
      m.invoke(null);
    } catch (InvocationTargetException e) {
      say("threw " + e.getCause());
    } catch (IllegalAccessException e) {
      say("could not be run");
    }
    if (asked == before) {
      say("asked nothing");
    }
  }

  static void finish(String name) {
    System.out.println(name + ": " + asked + " asked, " + wrong + " not as due");
    if (wrong != 0) {
      System.exit(1);
    }
  }
}

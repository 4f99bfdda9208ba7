import java.io.IOException;
import java.lang.reflect.Method;
import java.lang.reflect.Modifier;
import java.nio.file.Files;
import java.nio.file.Path;
import java.util.regex.Matcher;
import java.util.regex.Pattern;

/** What README.md says of calls holds, and it names all of them. */
public final class ReadmeTest {
  private static final Pattern CALL = Pattern.compile("(?m)^x\\.(\\w+)\\((.*)\\); *// (-?\\w+)");
  private static final int LEAST_CALLS = 35;

  public static void main(String[] args) throws IOException, ReflectiveOperationException {
    String page = Files.readString(Path.of(args.length > 0 ? args[0] : ".", "README.md"));
    makeCalls(page);
    nameCalls(page);
    Check.finish("readme");
  }

  private static void makeCalls(String page) throws ReflectiveOperationException {
    BallBox x = new BallBox();
    Matcher m = CALL.matcher(page);
    int calls = 0;
    for (; m.find(); calls++) {
      Method call = named(m.group(1));
      Object[] given = given(call, m.group(2).isBlank() ? new String[0] : m.group(2).split(", *"));
      Check.same(m.group(), m.group(3), String.valueOf(call.invoke(x, given)));
    }
    Check.due("calls that the page makes", true, calls >= LEAST_CALLS);
  }

  private static Method named(String name) {
    for (Method k : BallBox.class.getDeclaredMethods()) {
      if (Modifier.isPublic(k.getModifiers()) && k.getName().equals(name)) {
        return k;
      }
    }
    throw new IllegalStateException("no such call: " + name);
  }

  private static Object[] given(Method call, String[] words) {
    Class<?>[] kinds = call.getParameterTypes();
    if (kinds.length != words.length) {
      throw new IllegalStateException("not as many arguments: " + call.getName());
    }
    Object[] all = new Object[kinds.length];
    for (int i = 0; i < kinds.length; i++) {
      if (kinds[i] == boolean.class) {
        all[i] = Boolean.valueOf(words[i]);
      } else {
        all[i] = Integer.decode(words[i]);
      }
    }
    return all;
  }

  private static void nameCalls(String page) {
    for (Method k : BallBox.class.getDeclaredMethods()) {
      if (Modifier.isPublic(k.getModifiers())) {
        Check.due("the page names " + k.getName(), true, page.contains("`" + k.getName() + "`"));
      }
    }
  }
}

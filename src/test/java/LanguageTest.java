import java.io.IOException;
import java.lang.reflect.Method;
import java.lang.reflect.Modifier;
import java.nio.file.Files;
import java.nio.file.Path;
import java.util.ArrayList;
import java.util.HashSet;
import java.util.List;
import java.util.Set;
import java.util.regex.Matcher;
import java.util.regex.Pattern;

/** What can be seen of LANGUAGE.md's rules from the source and the class. */
public final class LanguageTest {
  private static int wrong;

  public static void main(String[] args) throws IOException {
    Path file = Path.of(args.length > 0 ? args[0] : ".", "src/main/java/BallBox.java");
    String source = Files.readString(file);
    String bare = withoutTexts(source);
    refusedWords(bare);
    imports(source);
    shape(bare);
    made(bare);
    face();
    System.out.println("language: " + wrong + " not as due");
    if (wrong != 0) System.exit(1);
  }

  private static void say(String what) {
    wrong++;
    System.out.println(what);
  }

  /** Comments, and what stands between quotes, left out. */
  private static String withoutTexts(String source) {
    return source.replaceAll("(?s)/\\*.*?\\*/", " ").replaceAll("//[^\n]*", " ")
        .replaceAll("\"[^\"\n]*\"", "\"\"").replaceAll("'[^'\n]'", "' '");
  }

  private static void refusedWords(String bare) {
    String[] words = {"throw", "throws", "try", "catch", "finally", "synchronized", "assert", "package", "protected", "volatile",
      "native", "hashCode", "toString", "equals", "Exception", "Object", "Random", "Thread", "Runtime", "Exact", "nanoTime", "currentTimeMillis"};
    for (String word : words) {
      if (Pattern.compile("\\b" + word + "\\b").matcher(bare).find()) say("refused: " + word);
    }
    if (bare.contains("->") || bare.contains("::")) say("refused: a lambda or a method reference");
    if (Pattern.compile("\"\"\\s*\\+|\\+\\s*\"\"").matcher(bare).find()) say("refused: + of texts");
    Matcher statics = Pattern.compile("static\\s+(?!final)(?!class)[\\w\\[\\]<>]+\\s+\\w+\\s*[=;]").matcher(bare);
    while (statics.find()) say("a static field that is not final: " + statics.group());
    if (Pattern.compile("static\\s*\\{").matcher(bare).find()) say("a static block");
  }

  private static void imports(String source) {
    Matcher m = Pattern.compile("(?m)^import (.*);").matcher(source);
    while (m.find()) {
      if (!m.group(1).equals("java.util.Arrays")) say("import " + m.group(1));
    }
    Set<String> allowed = Set.of("fill", "copyOf", "copyOfRange");
    m = Pattern.compile("Arrays\\.(\\w+)").matcher(source);
    while (m.find()) {
      if (!allowed.contains(m.group(1)) && !m.group().equals("Arrays.java")) say(m.group());
    }
    m = Pattern.compile("System\\.(\\w+)").matcher(source);
    while (m.find()) {
      if (!m.group(1).equals("arraycopy")) say(m.group());
    }
  }

  /** Classes, the length of methods, how many parameters they have. */
  private static void shape(String bare) {
    int classes = 0;
    Matcher m = Pattern.compile("\\b(class|interface|enum|record)\\s+\\w+").matcher(bare);
    while (m.find()) classes++;
    if (classes > 12) say(classes + " classes");
    Set<String> face = new HashSet<>();
    for (Method k : BallBox.class.getDeclaredMethods()) if (Modifier.isPublic(k.getModifiers())) face.add(k.getName());
    m = Pattern.compile("(?m)^( +)((?:public |private |static |final )*)([\\w\\[\\]]+ )?(\\w+)\\(([^)]*)\\) \\{$").matcher(bare);
    while (m.find()) {
      String name = m.group(4);
      if (Set.of("if", "for", "while", "switch").contains(name)) continue;
      int parameters = m.group(5).isBlank() ? 0 : m.group(5).split(",").length;
      if (parameters > 7) say(name + " has " + parameters + " parameters");
      int end = bare.indexOf("\n" + m.group(1) + "}", m.end());
      long lines = bare.substring(m.start(), end).lines().count() + 1;
      if (lines > 60) say(name + " has " + lines + " lines");
      if (!m.group(2).contains("public") && face.contains(name)) say(name + " bears the name of a public one");
    }
    if (!Pattern.compile("public final class BallBox").matcher(bare).find()) say("not public and final");
    List<String> all = new ArrayList<>();
    m = Pattern.compile("(?m)^  (private static final|static final|static|private static) class (\\w+)|^  (?:[a-z ]*)class (\\w+)").matcher(bare);
    while (m.find()) if (!m.group().contains("static")) all.add(m.group());
    if (!all.isEmpty()) say("an inner class that is not static: " + all);
  }

  /** All that is made is made with the object: no new in a method. */
  private static void made(String bare) {
    for (String line : bare.split("\n")) {
      if (!line.contains("new ")) continue;
      boolean field = line.matches(" +(private )?final .*= new .*;");
      boolean constructor = line.matches(" +(images|pages|rules)\\[i\\] = new \\w+\\(\\);") || line.matches(" +search = new Search\\(roller\\);");
      if (!field && !constructor) say("made outside a constructor: " + line.trim());
    }
  }

  private static void face() {
    String[] due = {"feed", "end", "box", "rule", "force", "cell", "ball", "put", "wall", "tip", "may", "press", "would", "sure", "fewest",
      "path", "blind", "chipped", "walled", "hardest", "sound", "fits", "where", "tells", "game", "book", "pain", "seed", "shaken", "count", "image", "back"};
    Set<String> names = new HashSet<>(List.of(due));
    for (Method k : BallBox.class.getDeclaredMethods()) {
      boolean isPublic = Modifier.isPublic(k.getModifiers());
      if (isPublic && !names.remove(k.getName())) say("more than the face: " + k.getName());
      if (!isPublic && !Modifier.isPrivate(k.getModifiers()) && !k.isSynthetic()) say("neither public nor private: " + k.getName());
    }
    if (!names.isEmpty()) say("not there: " + names);
    if (BallBox.class.getFields().length != 1) say("public fields: " + BallBox.class.getFields().length);
    if (BallBox.class.getConstructors().length != 1) say("constructors");
    for (Class<?> k : BallBox.class.getDeclaredClasses()) {
      if (!Modifier.isStatic(k.getModifiers())) say("not static: " + k);
      int fields = 0;
      for (java.lang.reflect.Field f : k.getDeclaredFields()) if (!Modifier.isStatic(f.getModifiers())) fields++;
      if (fields > 20) say(k + " has " + fields + " fields");
    }
  }
}

import java.util.ArrayList;
import java.util.List;
import java.util.Random;

/** Texts drawn by the grammars of the document, and spoilt ones. */
final class Drawn {
  private Drawn() {}

  static String box(Random r, int size) {
    int wide = r.nextInt(4) == 0 ? 1 + r.nextInt(6) : 1 + r.nextInt(size);
    int high = r.nextInt(4) == 0 ? 1 + r.nextInt(6) : 1 + r.nextInt(size);
    int balls = r.nextInt(12) == 0 ? 0 : 1 + r.nextInt(3);
    if (balls == 3 && wide * high > 16 && r.nextInt(4) != 0) {
      wide = Math.min(wide, 4);
      high = Math.min(high, 4);
    }
    char[] cells = new char[wide * high];
    int walls = r.nextInt(4);
    for (int i = 0; i < cells.length; i++) cells[i] = r.nextInt(10) < walls ? '#' : '.';
    for (int i = 0; i < 3; i++) if (r.nextInt(6) != 0) {
      int at = r.nextInt(cells.length);
      if (cells[at] == '.' || cells[at] == '#') cells[at] = (char) ('1' + i);
    }
    StringBuilder text = new StringBuilder();
    for (int y = 0; y < high; y++) {
      if (y > 0) text.append(blanks(r)).append(';').append(blanks(r));
      text.append("row").append(r.nextInt(5) == 0 ? "" : " ").append(cells, y * wide, wide);
    }
    List<Integer> plain = new ArrayList<>();
    for (int i = 0; i < cells.length; i++) if (cells[i] == '.') plain.add(i);
    for (int i = 0; i < balls && !plain.isEmpty(); i++) {
      int at = plain.remove(r.nextInt(plain.size()));
      text.append(";").append(blanks(r)).append("ball ").append(number(r, at % wide)).append(" ").append(number(r, at / wide));
    }
    return text.toString();
  }

  private static String number(Random r, int n) {
    return "0".repeat(r.nextInt(10) == 0 ? r.nextInt(5) : 0) + n;
  }

  private static String blanks(Random r) {
    return r.nextInt(4) == 0 ? " ".repeat(1 + r.nextInt(2)) : "";
  }

  static String rule(Random r) {
    StringBuilder text = new StringBuilder();
    int clauses = r.nextInt(10) == 0 ? 12 : 1 + r.nextInt(3);
    for (int i = 0; i < clauses && text.length() < 300; i++) {
      if (i > 0) text.append(blanks(r)).append(";").append(blanks(r));
      text.append("first ").append(sum(r));
      if (r.nextInt(3) != 0) text.append(" if ").append(test(r, 3));
    }
    return text.length() > 400 ? "first ball" : text.toString();
  }

  private static String sum(Random r) {
    StringBuilder s = new StringBuilder(value(r));
    for (int i = r.nextInt(4); i > 1; i--) s.append(blanks(r)).append("+-*/%".charAt(r.nextInt(5))).append(blanks(r)).append(value(r));
    return s.toString();
  }

  private static String value(Random r) {
    String[] words = {"ball", "x", "y", "ahead", "way", "tips", "home", "steps"};
    if (r.nextInt(3) != 0) return words[r.nextInt(words.length)];
    return String.valueOf(r.nextInt(10) == 0 ? r.nextInt(100000) : r.nextInt(5));
  }

  private static String test(Random r, int depth) {
    StringBuilder s = new StringBuilder(fact(r, depth));
    for (int i = r.nextInt(4); i > 1; i--) s.append(r.nextBoolean() ? " and " : " or ").append(fact(r, depth));
    return s.toString();
  }

  private static String fact(Random r, int depth) {
    if (depth > 0 && r.nextInt(4) == 0) return "not " + fact(r, depth - 1);
    if (depth > 0 && r.nextInt(4) == 0) return "[" + blanks(r) + test(r, depth - 1) + "]";
    String[] signs = {"<", "<=", "=", ">=", ">"};
    return sum(r) + blanks(r) + signs[r.nextInt(5)] + blanks(r) + sum(r);
  }

  static String spoilt(Random r, String text) {
    StringBuilder s = new StringBuilder(text);
    for (int i = r.nextInt(3); i >= 0 && s.length() > 0; i--) {
      int at = r.nextInt(s.length());
      switch (r.nextInt(10)) {
        case 0: s.deleteCharAt(at); break;
        case 1: s.insert(at, " ;.#123[]<=>+-*/%09az".charAt(r.nextInt(21))); break;
        case 2: s.setCharAt(at, " ;.#123[]<=>+-*/%09az".charAt(r.nextInt(21))); break;
        case 3: s.setLength(at); break;
        case 4: s.append(s.substring(at)); break;
        case 5: s.insert(at, s.substring(r.nextInt(at + 1), at)); break;
        case 6: s.insert(at, (r.nextBoolean() ? "not " : "[").repeat(9 + r.nextInt(3))); break;
        case 7: s.append(";first 1".repeat(9 + r.nextInt(5))); break;
        case 8: s.insert(at, r.nextBoolean() ? "not " : "["); break;
        default: s.insert(at, (char) r.nextInt(256)); break;
      }
    }
    if (s.length() > 400) s.setLength(400);
    return s.toString();
  }
}

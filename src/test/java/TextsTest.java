/** Promises 1 to 5: a new object, the tape, boxes and rules told, and their faults. */
public final class TextsTest {
  public static void main(String[] args) {
    newObject();
    tape();
    boxesTold();
    boxFaults();
    rulesTold();
    ruleFaults();
    ruleLimits();
    afterFaults();
    behindTheEnd();
    Check.finish("texts");
  }

  private static void newObject() {
    BallBox x = new BallBox();
    for (int what = 0; what <= 13; what++) {
      Check.due("new count(" + what + ")", what == 7 ? -1 : 0, x.count(what));
    }
    Check.due("NONE", -1, BallBox.NONE);
    Check.due("new cell", -1, x.cell(0, 0, 0));
    Check.due("new may", -1, x.may(0));
    Check.due("new blind", -1, x.blind(0, 0));
    Check.due("new chipped", -1, x.chipped(0));
    Check.due("new walled", -1, x.walled(0));
    Check.due("new hardest", -1, x.hardest(0));
    Check.due("new where", -1, x.where(0));
    Check.due("new tells", -1, x.tells(0));
    Check.due("new game", -1, x.game(1, 0));
    Check.due("new pain", -1, x.pain(0));
    Check.due("new shaken", -1, x.shaken(1, 1, 0));
    Check.due("new path", -1, x.path(0));
    Check.due("new put", false, x.put(0, 0, 0));
    Check.due("new wall", false, x.wall(0, 0, true));
    Check.due("new wall away", false, x.wall(0, 0, false));
    Check.due("new back", -1, x.back(0));
  }

  private static void tape() {
    BallBox x = new BallBox();
    for (int i = 1; i <= 20; i++) {
      Check.due("feed " + i, 20 * i, x.feed(0, 0, 0, 0, 0));
    }
    Check.due("feed beyond 400", -1, x.feed(0, 0, 0, 0, 0));
    Check.due("count(12)", 400, x.count(12));
    Check.due("end(-1)", -1, x.end(-1));
    Check.due("end(401)", -1, x.end(401));
    Check.due("end(400)", 400, x.end(400));
    Check.due("end(381)", 381, x.end(381));
    Check.due("feed to 401", -1, x.feed(0, 0, 0, 0, 0));
    Check.due("count(12)", 381, x.count(12));
    Check.due("end(380)", 380, x.end(380));
    Check.due("feed to 400", 400, x.feed(0, 0, 0, 0, 0));
    Check.due("end(min)", -1, x.end(Integer.MIN_VALUE));
    Check.due("end(max)", -1, x.end(Integer.MAX_VALUE));
    Check.due("end(0)", 0, x.end(0));
    // The highest byte comes first, also when it makes the number negative: then a byte that fits nowhere.
    Check.due("feed row .", 20, x.feed(0x726F7720, 0x2E000000, 0, 0, 0));
    x.end(5);
    Check.due("box row .", 0, x.box());
    x.feed(0x726F7720, 0x2EFF0000, 0, 0, 0);
    x.end(6);
    Check.due("byte 255", Texts.fault(5, 0), x.box());
  }

  private static void boxesTold() {
    BallBox x = new BallBox();
    Check.due("one cell", 1, Texts.box(x, "row .;ball 0 0"));
    Check.due("tape behind box", 0, x.count(12));
    Check.due("no blanks", 1, Texts.box(x, "row..;ball0 0"));
    Check.due("blanks", 1, Texts.box(x, "  row   .. ;  ball  1   0  "));
    Check.due("zeros ahead", 1, Texts.box(x, "row ..;ball 00001 00000"));
    Check.due("six by six", 3, Texts.box(x, "row 1....#;row .2....;row ..3...;row ......;row ......;row ......;ball 5 5;ball 1 0;ball 0 1"));
    Check.due("columns", 6, x.count(0));
    Check.due("rows", 6, x.count(1));
    Check.due("hole 3", 4, x.cell(2, 2, 0));
    Check.due("ball 2", 2, x.cell(0, 1, 1));
    x.tip(0);
    x.press(0);
    x.sound(0, 0, 0);
    x.seed(77);
    Texts.rule(x, "first ball");
    x.force(0);
    Check.due("another box", 0, Texts.box(x, "row #"));
    Check.due("tips", 0, x.count(5));
    Check.due("row", 0, x.count(8));
    Check.due("sounds", 0, x.count(9));
    Check.due("force stays", 0, x.count(7));
    Check.due("x stays", 77, x.count(11));
    Check.due("walls", 1, x.count(13));
  }

  private static void fault(String text, int place, int kind) {
    BallBox x = Texts.boxed("row ..;row #1;ball 0 0");
    Check.due("box " + text, Texts.fault(place, kind), Texts.box(x, text));
    Check.due("tape behind " + text, 0, x.count(12));
    Check.due("box stays behind " + text, 100 * 2 + 10 * 1 + 1, 100 * x.count(0) + 10 * x.count(2) + x.count(13));
  }

  private static void boxFaults() {
    fault("", 0, 0);
    fault("   ", 3, 0);
    fault("ro", 0, 0);
    fault("rowx .", 0, 0);
    fault("tow .", 0, 0);
    fault("row .;call 0 0", 6, 0);
    fault("Row .", 0, 0);
    fault(" 1", 1, 0);
    fault("row", 3, 0);
    fault("row  ", 5, 0);
    fault("row ;", 4, 0);
    fault("row 4", 4, 0);
    fault("row .4", 5, 0);
    fault("row ..;", 7, 0);
    fault("row .. ..", 7, 0);
    fault("row .. row ..", 7, 0);
    fault("row ..;;row ..", 7, 0);
    fault("row ..;ball", 11, 0);
    fault("row ..;ball x", 12, 0);
    fault("row ..;ball 0", 13, 0);
    fault("row ..;ball 0 ", 14, 0);
    fault("row ..;ball 0;", 13, 0);
    fault("row ..;ball 00", 14, 0);
    fault("row ..;ball 0 0 0", 16, 0);
    fault("row ..;ball 0 0x", 15, 0);
    fault("row ..;ball -1 0", 12, 0);
    fault("row ..;ball 6 0", 12, 1);
    fault("row ..;ball 0 6", 14, 1);
    fault("row ..;ball 000000 0", 12, 1);
    fault("row ..;ball 0 999999", 14, 1);
    fault("row ..;ball 99999 0", 12, 1);
    fault("ball 0 0", 0, 4);
    fault(" ball", 1, 4);
    fault("row .;row .;row .;row .;row .;row .;row .", 36, 4);
    fault("row ..;ball 0 0;row ..", 16, 4);
    fault("row ....;ball 0 0;ball 1 0;ball 2 0;ball 3 0", 36, 4);
    fault("row .......", 10, 5);
    fault("row .....1.", 10, 5);
    fault("row ..;row ...", 13, 5);
    fault("row ..;row .", 11, 5);
    fault("row ..;row .,", 11, 5);
    fault("row ..;row .......", 17, 5);
    fault("row 11", 5, 5);
    fault("row .2;row .2", 12, 5);
    fault("row .2;row 2..", 11, 5);
    fault("row ..;ball 2 0", 12, 5);
    fault("row ..;ball 0 1", 12, 5);
    fault("row .#;ball 1 0", 12, 5);
    fault("row .3;ball  1 0", 13, 5);
    fault("row ..;ball 1 0;ball 1 0", 21, 5);
    fault("row ..;ball 2 0,", 12, 5);
    fault("row ..;ball 2 ,", 14, 0);
  }

  private static void rulesTold() {
    BallBox x = new BallBox();
    Check.due("rule 0", 0, Texts.rule(x, "first ball"));
    Check.due("tape behind rule", 0, x.count(12));
    Check.due("rule 1", 1, Texts.rule(x, "first1if1<2"));
    Check.due("rule 2", 2, Texts.rule(x, " first x + y*ahead-way/tips%home if not[steps>=1or x<=2and y=3]or ball>0 ; first 99999 "));
    Check.due("rule with a fault takes no number", Texts.fault(0, 0), Texts.rule(x, "x"));
    Check.due("rule 3", 3, Texts.rule(x, "first 0"));
    Check.due("rule 4", 4, Texts.rule(x, "first 0"));
    Check.due("rule 5", 5, Texts.rule(x, "first 0"));
    Check.due("count(6)", 6, x.count(6));
    Check.due("a seventh", -1, Texts.rule(x, "first 0"));
    Check.due("tape stays behind a seventh", 7, x.count(12));
    Check.due("a seventh with a fault", -1, Texts.rule(x, "x"));
  }

  private static void ruleFault(String text, int place, int kind) {
    BallBox x = new BallBox();
    Check.due("rule " + text, Texts.fault(place, kind), Texts.rule(x, text));
    Check.due("tape behind " + text, 0, x.count(12));
    Check.due("no rule by " + text, 0, x.count(6));
  }

  private static void ruleFaults() {
    ruleFault("", 0, 0);
    ruleFault("  ", 2, 0);
    ruleFault("firstx 1", 0, 0);
    ruleFault("first", 5, 0);
    ruleFault("first ;", 6, 0);
    ruleFault("first z", 6, 0);
    ruleFault("first balls", 6, 0);
    ruleFault("first stepsx", 6, 0);
    ruleFault("first xz", 6, 0);
    ruleFault("first x{", 7, 0);
    ruleFault("first 1:", 7, 0);
    ruleFault("first `", 6, 0);
    ruleFault("first x if x=1\u0000", 14, 0);
    ruleFault("first not", 6, 0);
    ruleFault("first first", 6, 0);
    ruleFault("first -1", 6, 0);
    ruleFault("first [1]", 6, 0);
    ruleFault("first 1 2", 8, 0);
    ruleFault("first 1x", 7, 0);
    ruleFault("first 1 +", 9, 0);
    ruleFault("first 1;", 8, 0);
    ruleFault("first 1;x", 8, 0);
    ruleFault("first 1 if", 10, 0);
    ruleFault("first 1 if 1", 12, 0);
    ruleFault("first 1 if 1 and 2", 13, 0);
    ruleFault("first 1 if 1<", 13, 0);
    ruleFault("first 1 if 1< =2", 14, 0);
    ruleFault("first 1 if 1=<2", 13, 0);
    ruleFault("first 1 if 1<>2", 13, 0);
    ruleFault("first 1 if 1=2=3", 14, 0);
    ruleFault("first 1 if 1=2 or", 17, 0);
    ruleFault("first 1 if [1=2", 15, 0);
    ruleFault("first 1 if 1=2]", 14, 0);
    ruleFault("first 1 if []", 12, 0);
    ruleFault("first 1 if [1]=1", 13, 0);
    ruleFault("first 1 if 1=2 if 1=2", 15, 0);
    ruleFault("first 1 iff 1=2", 8, 0);
    ruleFault("first 1!", 7, 0);
    ruleFault("first 123456", 6, 1);
    ruleFault("first 1+000000", 8, 1);
    ruleFault("first 1 234567", 8, 0);
    ruleFault("first 1 if " + "not ".repeat(11) + "1=1", 51, 2);
    ruleFault("first 1 if " + "[".repeat(11), 21, 2);
    ruleFault("first 1 if " + "[not ".repeat(6), 36, 2);
    ruleFault("first 1;".repeat(12) + "first 1", 96, 4);
    ruleFault("first 1;".repeat(12) + "  first", 98, 4);
    ruleFault("first 1;".repeat(12) + "x", 96, 0);
    ruleFault("first 1;".repeat(12), 96, 0);
  }

  private static void ruleLimits() {
    BallBox x = new BallBox();
    Check.due("12 clauses", 0, Texts.rule(x, "first 1;".repeat(11) + "first 1"));
    Check.due("10 deep", 1, Texts.rule(x, "first 1 if " + "[".repeat(10) + "x=1" + "]".repeat(10)));
    Check.due("10 deep by not and [", 2, Texts.rule(x, "first 1 if " + "not [".repeat(5) + "x=1" + "]".repeat(5)));
    Check.due("10 deep, twice", 3, Texts.rule(x, "first 1 if " + "not ".repeat(10) + "1=1 and " + "not ".repeat(10) + "1=1"));
    Check.due("60 values", 4, Texts.rule(x, "first 1" + "+1".repeat(59)));
    ruleFault("first 1" + "+1".repeat(60), 126, 3);
    ruleFault("first 1" + "+1".repeat(59) + "+ball", 126, 3);
    ruleFault("first 1" + "+1".repeat(59) + "+123456", 126, 1);
    ruleFault("first 1" + "+1".repeat(59) + "+balls", 126, 0);
    // 57 values, two more and their sign are 60; with 58 the last value is one too many; with 59 the sign is.
    Check.due("60 with a sign", 5, Texts.rule(x, "first 1" + "+1".repeat(56) + " if 1=1"));
    ruleFault("first 1" + "+1".repeat(57) + " if 1=1", 127, 3);
    ruleFault("first 1" + "+1".repeat(58) + " if 1>=1", 128, 3);
    ruleFault("first 1" + "+1".repeat(59) + " if 1=1", 129, 3);
    ruleFault("first 1" + "+1".repeat(58) + " if 1!", 128, 0);
    // They are counted through all clauses.
    ruleFault("first 1" + "+1".repeat(29) + ";first 1" + "+1".repeat(30), 66 + 6 + 60, 3);
  }

  private static void afterFaults() {
    BallBox x = new BallBox();
    Texts.rule(x, "first 0-ball");
    Texts.rule(x, "first ball;first z");
    Texts.box(x, "row ....;ball 0 0;ball 1 0");
    x.force(0);
    // A text with a fault leaves nothing of itself in the next rule, nor in those there are.
    Check.due("rule 1", 1, Texts.rule(x, "first 0 if 1=2"));
    Check.due("may by rule 0", 2, x.may(1));
    x.force(1);
    Check.due("may by rule 1", 1, x.may(1));
    for (int i = 0; i < 20; i++) {
      Check.due("a long one with a fault", Texts.fault(125, 0), Texts.rule(x, "first 1" + "+1".repeat(58) + "+ "));
    }
    Check.due("rule 2", 2, Texts.rule(x, "first 0 if 1=2;first 0-ball if not 1=1;first 1-ball"));
    x.force(2);
    Check.due("may by rule 2", 2, x.may(1));
    Check.due("rule 3: 12 clauses, none holds", 3, Texts.rule(x, "first 0-ball if 1=2;".repeat(11) + "first 0-ball if not 1=1"));
    x.force(3);
    Check.due("may by rule 3", 1, x.may(1));
  }

  /** What the tape had behind its end is not read. */
  private static void behindTheEnd() {
    BallBox x = new BallBox();
    cut(x, "row ....;ball 0 0", 6);
    Check.due("signs behind the end", 0, x.box());
    Check.due("columns", 2, x.count(0));
    cut(x, "row ..;ball 1 05", 14);
    Check.due("a digit behind the end", Texts.fault(14, 0), x.box());
    cut(x, "row ..;ball 0 01", 15);
    Check.due("a digit behind the end", 1, x.box());
    cut(x, "rows", 3);
    Check.due("a letter behind the end", Texts.fault(3, 0), x.box());
    cut(x, "row ", 3);
    Check.due("a blank behind the end", Texts.fault(3, 0), x.box());
    cut(x, "first xy", 7);
    Check.due("a letter behind the end", 0, x.rule());
    cut(x, "first 1234567", 11);
    Check.due("digits behind the end", 1, x.rule());
    cut(x, "first x if x<=1", 13);
    Check.due("= behind the end", Texts.fault(13, 0), x.rule());
    cut(x, "row " + ".".repeat(396), 400);
    Check.due("400 bytes", Texts.fault(10, 5), x.box());
    cut(x, " ".repeat(400), 400);
    Check.due("400 blanks", Texts.fault(400, 0), x.box());
    cut(x, "first" + " ".repeat(394) + "1", 400);
    Check.due("400 bytes", 2, x.rule());
    cut(x, "f".repeat(400), 400);
    Check.due("a word of 400 bytes", Texts.fault(0, 0), x.rule());
    cut(x, "first " + "9".repeat(394), 400);
    Check.due("a number of 394 digits", Texts.fault(6, 1), x.rule());
  }

  private static void cut(BallBox x, String text, int n) {
    Texts.tell(x, text);
    Check.due("end " + n, n, x.end(n));
  }
}

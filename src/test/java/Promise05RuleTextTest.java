/** Promise 5 and the terms of a rule: what is told, and the faults. */
public final class Promise05RuleTextTest {
  private static final int UNFIT = 0;
  private static final int NUMBER = 1;
  private static final int DEEP = 2;
  private static final int VALUES = 3;
  private static final int CLAUSES = 4;

  public static void main(String[] args) {
    Check.run(Promise05RuleTextTest.class);
  }

  private static void isRule(String text) {
    Check.due(text, 0, Texts.rule(new BallBox(), text));
  }

  private static void fault(int place, int kind, String text) {
    Check.due(text, Texts.fault(place, kind), Texts.rule(new BallBox(), text));
  }

  static void promise5TwelveClauses() {
    isRule("first 1;".repeat(11) + "first 1");
    isRule("first 1 if 1=1;".repeat(11) + "first 1 if 1=1");
  }

  static void promise5ThirteenthClause() {
    fault(96, CLAUSES, "first 1;".repeat(12) + "first 1");
    fault(98, CLAUSES, "first 1;".repeat(12) + "  first");
    fault(96, CLAUSES, "first 1;".repeat(13) + "first 1");
  }

  static void promise5ThirteenthClauseThatIsNone() {
    fault(96, UNFIT, "first 1;".repeat(12));
    fault(96, UNFIT, "first 1;".repeat(12) + "x");
    fault(96, UNFIT, "first 1;".repeat(12) + "firsts 1");
    fault(98, UNFIT, "first 1;".repeat(12) + "  ");
  }

  static void promise5ClauseWithoutFirst() {
    fault(0, UNFIT, "");
    fault(2, UNFIT, "  ");
    fault(0, UNFIT, "firstx 1");
    fault(0, UNFIT, "firs 1");
    fault(0, UNFIT, "last 1");
    fault(0, UNFIT, "First 1");
    fault(0, UNFIT, "1");
    fault(0, UNFIT, ";first 1");
    fault(0, UNFIT, "row .");
    fault(8, UNFIT, "first 1;");
    fault(8, UNFIT, "first 1;x");
    fault(8, UNFIT, "first 1;;first 1");
    fault(8, UNFIT, "first 1 first 2");
  }

  static void promise5SumMissing() {
    fault(5, UNFIT, "first");
    fault(8, UNFIT, "first   ");
    fault(6, UNFIT, "first ;");
    fault(6, UNFIT, "first if 1=1");
    fault(6, UNFIT, "first first");
    fault(6, UNFIT, "first not");
    fault(6, UNFIT, "first -1");
    fault(6, UNFIT, "first +1");
    fault(6, UNFIT, "first [1]");
    fault(6, UNFIT, "first =");
  }

  static void promise5ValueMissing() {
    String signs = "+-*/%";
    for (int i = 0; i < signs.length(); i++) {
      isRule("first 1" + signs.charAt(i) + "1");
      fault(9, UNFIT, "first 1 " + signs.charAt(i));
      fault(9, UNFIT, "first 1 " + signs.charAt(i) + ";");
      fault(8, UNFIT, "first 1" + signs.charAt(i) + "-1");
    }
  }

  static void promise5ValueTooMany() {
    fault(8, UNFIT, "first 1 2");
    fault(7, UNFIT, "first 1x");
    fault(8, UNFIT, "first x y");
  }

  static void promise5EachWord() {
    String[] words = {"ball", "x", "y", "ahead", "way", "tips", "home", "steps"};
    for (String word : words) {
      isRule("first " + word);
      isRule("first 1 if 1=" + word);
      fault(6, UNFIT, "first " + word + "z");
      fault(6, UNFIT, "first z" + word);
    }
    fault(6, UNFIT, "first z");
    fault(6, UNFIT, "first bal");
    fault(6, UNFIT, "first step");
    fault(6, UNFIT, "first steps" + "s".repeat(380));
  }

  static void promise5WordsGoAsFarAsSmallLetters() {
    isRule("first1if1<2or x=2and y=3");
    fault(6, UNFIT, "first xy");
    fault(7, UNFIT, "first xY");
    fault(7, UNFIT, "first x`");
    fault(7, UNFIT, "first x{");
    fault(6, UNFIT, "first `");
    fault(6, UNFIT, "first X");
  }

  static void promise5NumberOfFiveDigits() {
    isRule("first 99999");
    isRule("first 00000");
    isRule("first 1 if 12345=00001");
  }

  static void promise5NumberOfSixDigits() {
    fault(6, NUMBER, "first 100000");
    fault(6, NUMBER, "first 000000");
    fault(8, NUMBER, "first 1+123456");
    fault(13, NUMBER, "first 1 if 1=123456");
    fault(6, NUMBER, "first " + "9".repeat(394));
  }

  static void promise5NumberThatCanNotStandThere() {
    fault(8, UNFIT, "first 1 234567");
    fault(0, UNFIT, "123456");
  }

  static void promise5DigitsGoOn() {
    isRule("first 1234+5");
    fault(9, UNFIT, "first 12 34");
    fault(7, UNFIT, "first 1:");
    fault(7, UNFIT, "first 1.5");
  }

  static void promise5EachSignOfAFact() {
    String[] signs = {"<", "<=", "=", ">=", ">"};
    for (String sign : signs) {
      isRule("first 1 if 1" + sign + "2");
      isRule("first 1 if 1 " + sign + " 2");
    }
  }

  static void promise5SignsThatAreNone() {
    fault(13, UNFIT, "first 1 if 1==2");
    fault(13, UNFIT, "first 1 if 1=<2");
    fault(13, UNFIT, "first 1 if 1=>2");
    fault(13, UNFIT, "first 1 if 1<>2");
    fault(13, UNFIT, "first 1 if 1<<2");
    fault(14, UNFIT, "first 1 if 1<==2");
    fault(14, UNFIT, "first 1 if 1< =2");
    fault(12, UNFIT, "first 1 if 1!=2");
  }

  static void promise5TestMissing() {
    fault(10, UNFIT, "first 1 if");
    fault(11, UNFIT, "first 1 if ;");
    fault(8, UNFIT, "first 1 iff 1=2");
    fault(8, UNFIT, "first 1 i 1=2");
    fault(15, UNFIT, "first 1 if 1=2 if 1=2");
  }

  static void promise5FactThatIsHalf() {
    fault(12, UNFIT, "first 1 if 1");
    fault(12, UNFIT, "first 1 if 1;first 1");
    fault(13, UNFIT, "first 1 if 1 and 2");
    fault(13, UNFIT, "first 1 if 1=");
    fault(13, UNFIT, "first 1 if 1<");
    fault(11, UNFIT, "first 1 if =1");
    fault(14, UNFIT, "first 1 if 1=2=3");
    fault(13, UNFIT, "first 1 if 1=[2]");
  }

  static void promise5JoinedFactMissing() {
    isRule("first 1 if 1=2 and 2=3 or 3=4 and 4=5");
    fault(17, UNFIT, "first 1 if 1=2 or");
    fault(18, UNFIT, "first 1 if 1=2 and");
    fault(18, UNFIT, "first 1 if 1=2 or or 1=2");
    fault(19, UNFIT, "first 1 if 1=2 and and 1=2");
    fault(11, UNFIT, "first 1 if or 1=2");
    fault(11, UNFIT, "first 1 if and 1=2");
    fault(14, UNFIT, "first 1 if not");
    fault(15, UNFIT, "first 1 if not or 1=2");
    fault(15, UNFIT, "first 1 if 1=2 not 1=2");
  }

  static void promise5Brackets() {
    isRule("first 1 if [1=2]");
    isRule("first 1 if [[1=2]or[1=3]]and not[1=2]");
    fault(15, UNFIT, "first 1 if [1=2");
    fault(14, UNFIT, "first 1 if 1=2]");
    fault(12, UNFIT, "first 1 if []");
    fault(13, UNFIT, "first 1 if [1]=1");
    fault(16, UNFIT, "first 1 if [1=2 ;");
    fault(16, UNFIT, "first 1 if [1=2][1=2]");
    fault(11, UNFIT, "first 1 if (1=2)");
  }

  static void promise5TenDeep() {
    isRule("first 1 if " + "[".repeat(10) + "x=1" + "]".repeat(10));
    isRule("first 1 if " + "not ".repeat(10) + "1=1");
    isRule("first 1 if " + "not [".repeat(5) + "x=1" + "]".repeat(5));
    isRule("first 1 if " + "[not ".repeat(5) + "x=1" + "]".repeat(5));
  }

  static void promise5ElevenDeep() {
    fault(21, DEEP, "first 1 if " + "[".repeat(11));
    fault(21, DEEP, "first 1 if " + "[".repeat(11) + "x=1" + "]".repeat(11));
    fault(51, DEEP, "first 1 if " + "not ".repeat(11) + "1=1");
    fault(36, DEEP, "first 1 if " + "[not ".repeat(6));
    fault(36, DEEP, "first 1 if " + "not [".repeat(5) + "not 1=1" + "]".repeat(5));
    fault(51, DEEP, "first 1 if " + "not ".repeat(10) + "[1=1]");
    fault(28, DEEP, "first 1 if " + "[".repeat(10) + "1=1 or not 1=1");
  }

  static void promise5DepthCountsOnlyWhatLiesWithin() {
    String ten = "not ".repeat(10) + "1=1";
    isRule("first 1 if " + ten + " and " + ten + " or " + ten);
    isRule("first 1 if " + "[1=1] and ".repeat(12) + "1=1");
    isRule("first 1 if " + ten + ";first 2 if " + ten);
    isRule("first 1 if not 1=1 and [not 1=1 or " + "[".repeat(9) + "1=1" + "]".repeat(9) + "]");
  }

  static void promise5SixtyValues() {
    isRule("first 1" + "+1".repeat(59));
    isRule("first x" + "*x".repeat(59));
  }

  static void promise5SixtyFirstValue() {
    fault(126, VALUES, "first 1" + "+1".repeat(60));
    fault(126, VALUES, "first 1" + "+1".repeat(59) + "+ball");
    fault(126, VALUES, "first x" + "%x".repeat(59) + "%99999");
    fault(127, VALUES, "first 1" + "+1".repeat(59) + "+ 1");
  }

  static void promise5SixtyFirstOfOnePlaceTheLeast() {
    fault(126, NUMBER, "first 1" + "+1".repeat(59) + "+123456");
    fault(126, UNFIT, "first 1" + "+1".repeat(59) + "+balls");
    fault(126, UNFIT, "first 1" + "+1".repeat(59) + "+;");
    fault(126, UNFIT, "first 1" + "+1".repeat(59) + "+");
  }

  /** Of a fact made of a sign three are counted: both values, and the sign. */
  static void promise5SixtyWithASign() {
    isRule("first 1" + "+1".repeat(56) + " if 1=1");
    isRule("first 1+1+1 if 1=1" + " or 1=1".repeat(18));
  }

  static void promise5SixtyFirstIsASign() {
    fault(128, VALUES, "first 1" + "+1".repeat(58) + " if 1=1");
    fault(128, VALUES, "first 1" + "+1".repeat(58) + " if 1>=1");
    fault(129, VALUES, "first 1" + "+1".repeat(58) + " if 1 <");
    fault(128, UNFIT, "first 1" + "+1".repeat(58) + " if 1!");
  }

  static void promise5SixtyFirstBesideASign() {
    fault(127, VALUES, "first 1" + "+1".repeat(57) + " if 1=1");
    fault(129, VALUES, "first 1" + "+1".repeat(59) + " if 1=1");
  }

  static void promise5ValuesAreCountedThroughAllClauses() {
    isRule("first 1" + "+1".repeat(29) + ";first 1" + "+1".repeat(29));
    fault(132, VALUES, "first 1" + "+1".repeat(29) + ";first 1" + "+1".repeat(30));
  }

  static void promise5OtherWordsAreNotCounted() {
    isRule("first 1" + "+1".repeat(50) + " if not not not [1=1] and not [1=1 or not [1=1]]");
  }

  static void promise5BlanksAsOneLikes() {
    isRule("first1if1<2");
    isRule("   first   1  +  x   if   not   [  1  <=  2  ]   and   x  =  1  ;   first   2   ");
    fault(7, UNFIT, "first 1\t");
    fault(5, UNFIT, "first\n1");
    fault(14, UNFIT, "first x if x=1\u0000");
    fault(7, UNFIT, "first 1\u00a0");
  }

  static void promise5TextOf400Bytes() {
    isRule("first" + " ".repeat(394) + "1");
    fault(400, UNFIT, " ".repeat(400));
    fault(0, UNFIT, "f".repeat(400));
    fault(400, UNFIT, "first 1" + " ".repeat(392) + ";");
  }

  static void promise5TheFirstFaultAlongTheText() {
    fault(6, UNFIT, "first z+123456");
    fault(6, NUMBER, "first 123456+z");
    fault(7, UNFIT, "first 1?" + ";first 1".repeat(13));
    fault(21, DEEP, "first 1 if " + "[".repeat(11) + "123456");
  }
}

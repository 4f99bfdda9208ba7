import java.util.Arrays;

/** A box with a glass lid and a maze, in which up to three balls roll together when it is tipped. */
public final class BallBox {
  public static final int NONE = -1;

  private static final int NOT_SO = -2;
  private static final int IMAGES = 4;
  private static final int BOOK_BOXES = 8;

  private final Tape tape = new Tape();
  private final BoxReader boxReader = new BoxReader();
  private final RuleReader ruleReader = new RuleReader();
  private final Roller roller = new Roller();
  private final Search search = new Search(roller);
  private final Carver carver = new Carver(roller);
  private final Pairs pairs = new Pairs(roller);
  private final Listener listener = new Listener(roller);
  private final Trial trial = new Trial(roller);
  private final State state = new State();
  private final State[] images = new State[IMAGES];
  private final State[] pages = new State[BOOK_BOXES];
  private final int[] pains = new int[BOOK_BOXES];
  private int pageCount;
  // What was reckoned is kept as long as this stays the same.
  private int changes;

  public BallBox() {
    for (int i = 0; i < IMAGES; i++) {
      images[i] = new State();
    }
    for (int i = 0; i < BOOK_BOXES; i++) {
      pages[i] = new State();
    }
  }

  public int feed(int a, int b, int c, int d, int e) {
    if (tape.length + 20 > Tape.LONGEST) {
      return NONE;
    }
    tape.takeFour(a);
    tape.takeFour(b);
    tape.takeFour(c);
    tape.takeFour(d);
    tape.takeFour(e);
    return tape.length;
  }

  public int end(int n) {
    if (n < 0 || n > tape.length) {
      return NONE;
    }
    tape.length = n;
    return n;
  }

  public int box() {
    int fault = boxReader.read(tape);
    tape.length = 0;
    if (fault != 0) {
      return NOT_SO - fault;
    }
    state.beginWith(boxReader.draft);
    changes++;
    return state.balls;
  }

  public int rule() {
    if (roller.ruleCount >= Roller.MOST_RULES) {
      return NONE;
    }
    int fault = ruleReader.read(tape);
    tape.length = 0;
    if (fault != 0) {
      return NOT_SO - fault;
    }
    roller.addRule(ruleReader.draft);
    return roller.ruleCount - 1;
  }

  public int force(int rule) {
    if (rule < NONE || rule >= roller.ruleCount) {
      return NOT_SO;
    }
    int before = state.force;
    state.force = rule;
    changes++;
    return before;
  }

  public int cell(int x, int y, int what) {
    int spot = State.spotOf(x, y);
    int kind = state.kindAt(spot);
    if (kind == State.OUTSIDE || what < 0 || what > 1) {
      return NONE;
    }
    return what == 0 ? kind : State.whoLies(state.situation, spot);
  }

  public int ball(int ball, int what) {
    if (ball < 0 || ball >= state.balls) {
      return NONE;
    }
    int spot = State.spotIn(state.situation, ball);
    boolean fell = State.isFallen(spot);
    switch (what) {
      case 0:
        return fell ? NONE : State.columnOf(spot);
      case 1:
        return fell ? NONE : State.rowOf(spot);
      case 2:
        return !fell ? 0 : spot == State.HOME ? 1 : 2;
      case 3:
        return fell ? NONE : state.stepsHome(ball, spot);
      default:
        return NONE;
    }
  }

  public boolean put(int ball, int x, int y) {
    int spot = State.spotOf(x, y);
    if (ball < 0 || ball >= state.balls || !state.isBare(spot)) {
      return false;
    }
    state.situation = State.laid(state.situation, ball, spot);
    changes++;
    return true;
  }

  public boolean wall(int x, int y, boolean is) {
    int spot = State.spotOf(x, y);
    boolean can = is ? state.isBare(spot) : state.kindAt(spot) == State.WALL;
    if (!can) {
      return false;
    }
    state.makeKind(spot, is ? State.WALL : State.PLAIN);
    changes++;
    return true;
  }

  public int tip(int way) {
    if (!state.boxed || !isWay(way)) {
      return NONE;
    }
    state.situation = roller.rolled(state, state.situation, way);
    state.tips++;
    changes++;
    return roller.hits + 10 * roller.falls;
  }

  public int may(int way) {
    if (!state.boxed || !isWay(way)) {
      return NONE;
    }
    roller.rolled(state, state.situation, way);
    return roller.hits + 10 * roller.falls;
  }

  public int press(int way) {
    if (way == NONE) {
      state.rowLength = 0;
      return 0;
    }
    if (!state.boxed || !isWay(way) || state.rowLength >= State.LONGEST_ROW) {
      return NOT_SO;
    }
    state.row[state.rowLength] = way;
    state.rowLength++;
    return state.rowLength;
  }

  public int would(int what) {
    if (!state.boxed || what < 0 || what > 3) {
      return NONE;
    }
    trial.followRow(state);
    switch (what) {
      case 0:
        return state.howManyHome(trial.situation);
      case 1:
        return State.howMany(trial.situation, State.LOST);
      case 2:
        return trial.hits;
      default:
        return trial.falls;
    }
  }

  public long sure(int p, int part) {
    if (!state.boxed || p < 0 || p > 100 || part < 0 || part > 1) {
      return NONE;
    }
    trial.reckonSure(state, p);
    return part == 0 ? trial.above : trial.below;
  }

  public int fewest() {
    if (!state.boxed) {
      return NONE;
    }
    search.keepUp(state, changes);
    return search.fewest;
  }

  public int path(int k) {
    if (!state.boxed || k < 0) {
      return NONE;
    }
    search.keepUp(state, changes);
    return search.wayOfPath(k);
  }

  public int blind(int n, int what) {
    boolean asked = n >= 0 && n <= Pairs.LONGEST_BLIND && what >= 0 && what <= Pairs.LONGEST_BLIND;
    if (!state.boxed || state.balls > 2 || !asked) {
      return NONE;
    }
    pairs.keepUp(state, changes);
    int length = pairs.blindLength(n);
    if (length < 0) {
      return NOT_SO;
    }
    return what == 0 ? length : pairs.wayOfBlind(what - 1);
  }

  public int chipped(int what) {
    if (!state.boxed || what < 0 || what > 2) {
      return NONE;
    }
    carver.keepUp(state, changes, State.PLAIN);
    return carver.answer(State.PLAIN, what);
  }

  public int walled(int what) {
    if (!state.boxed || what < 0 || what > 2) {
      return NONE;
    }
    carver.keepUp(state, changes, State.WALL);
    return carver.answer(State.WALL, what);
  }

  public int hardest(int what) {
    if (!state.boxed || state.balls > 2 || what < 0 || what > 2) {
      return NONE;
    }
    pairs.keepUp(state, changes);
    if (what == 0 || pairs.hardestFar < 0) {
      return pairs.hardestFar;
    }
    return what > state.balls ? NOT_SO : State.numberIn(pairs.hardestStart, what - 1);
  }

  public int sound(int way, int hits, int falls) {
    if (way == NONE) {
      state.soundCount = 0;
      changes++;
      return 0;
    }
    boolean heard = hits >= 0 && hits <= 3 && falls >= 0 && falls <= 3 && hits + falls <= 3;
    if (!state.boxed || !isWay(way) || !heard || state.soundCount >= State.MOST_SOUNDS) {
      return NOT_SO;
    }
    state.sounds[state.soundCount] = Listener.packed(way, hits, falls);
    state.soundCount++;
    changes++;
    return state.soundCount;
  }

  public int fits(int what) {
    if (!state.boxed || what < 0 || what > 3) {
      return NONE;
    }
    listener.keepUp(state, changes, false);
    if (what == 0) {
      return listener.fitting;
    }
    return listener.fitting == 0 || what > state.balls
        ? NOT_SO
        : State.numberIn(listener.firstStart, what - 1);
  }

  public long where(int ball) {
    if (!state.boxed || ball < 0 || ball >= state.balls) {
      return NONE;
    }
    listener.keepUp(state, changes, false);
    return listener.cellsOf(ball);
  }

  public int tells(int what) {
    if (!state.boxed || what < 0 || what > 1) {
      return NONE;
    }
    listener.keepUp(state, changes, true);
    if (listener.fitting == 0) {
      return NOT_SO;
    }
    return what == 0 ? listener.tellingWay : listener.mostAlike;
  }

  public int game(int n, int what) {
    if (!state.boxed || n < 0 || n > Trial.LONGEST_GAME || what < 0 || what > 1) {
      return NONE;
    }
    int way = trial.winningWay(state, n);
    if (what == 1) {
      return way;
    }
    return way == NOT_SO ? 0 : 1;
  }

  public int book() {
    if (!state.boxed) {
      return NONE;
    }
    if (pageCount >= BOOK_BOXES || isInBook()) {
      return NOT_SO;
    }
    search.keepUp(state, changes);
    pages[pageCount].takeOver(state);
    pains[pageCount] = search.fewest;
    pageCount++;
    return pageCount - 1;
  }

  public int pain(int number) {
    return number < 0 || number >= pageCount ? NONE : pains[number];
  }

  public int seed(int x) {
    if (x < 0) {
      return NONE;
    }
    int before = state.x;
    state.x = x;
    return before;
  }

  public int shaken(int m, int n, int what) {
    boolean asked = m >= 1 && m <= 20 && n >= 1 && n <= 60 && what >= 0 && what <= 2;
    if (!state.boxed || !asked) {
      return NONE;
    }
    trial.shake(state, m, n);
    return what == 0 ? trial.timesHome : what == 1 ? trial.lost : trial.hits;
  }

  public int count(int what) {
    switch (what) {
      case 0:
        return state.columns;
      case 1:
        return state.rows;
      case 2:
        return state.balls;
      case 3:
        return state.howManyHome(state.situation);
      case 4:
        return State.howMany(state.situation, State.LOST);
      case 5:
        return state.tips;
      case 6:
        return roller.ruleCount;
      case 7:
        return state.force;
      case 8:
        return state.rowLength;
      case 9:
        return state.soundCount;
      case 10:
        return pageCount;
      case 11:
        return state.x;
      case 12:
        return tape.length;
      case 13:
        return state.howManyWalls();
      default:
        return NONE;
    }
  }

  public int image(int k) {
    if (k < 0 || k >= IMAGES) {
      return NONE;
    }
    images[k].takeOver(state);
    images[k].kept = true;
    return state.tips;
  }

  public int back(int k) {
    if (k < 0 || k >= IMAGES || !images[k].kept) {
      return NONE;
    }
    state.takeOver(images[k]);
    changes++;
    return state.tips;
  }

  private static boolean isWay(int way) {
    return way >= 0 && way <= 3;
  }

  private boolean isInBook() {
    for (int i = 0; i < pageCount; i++) {
      if (state.isAlike(pages[i])) {
        return true;
      }
    }
    return false;
  }

  /** The bytes that were told, and a reader's place among them. */
  private static final class Tape {
    static final int LONGEST = 400;
    static final int UNFIT = 0;
    static final int WRONG_NUMBER = 1;
    static final int TOO_DEEP = 2;
    static final int TOO_MANY_VALUES = 3;
    static final int TOO_MANY = 4;
    static final int WRONG_CELL = 5;
    private static final int MOST_DIGITS = 5;

    private final int[] bytes = new int[LONGEST];
    int length;
    int at;
    int fault;

    void takeFour(int number) {
      for (int shift = 24; shift >= 0; shift -= 8) {
        if (length < LONGEST) {
          bytes[length] = number >>> shift & 255;
          length++;
        }
      }
    }

    void start() {
      at = 0;
      fault = 0;
    }

    /** Always false, so that a reader can end with it. */
    boolean blame(int place, int kind) {
      if (fault == 0) {
        fault = 1 + 8 * place + kind;
      }
      return false;
    }

    int signAt(int place) {
      return place >= 0 && place < length ? bytes[place] : NONE;
    }

    boolean isAtEnd() {
      return at >= length;
    }

    void skipBlanks() {
      while (at < length && bytes[at] == ' ') {
        at++;
      }
    }

    int endOfWord() {
      int to = at;
      while (to < length && bytes[to] >= 'a' && bytes[to] <= 'z') {
        to++;
      }
      return to;
    }

    int endOfDigits() {
      int to = at;
      while (to < length && bytes[to] >= '0' && bytes[to] <= '9') {
        to++;
      }
      return to;
    }

    /** Whether the bytes from at on, up to the given place, are just this word. */
    boolean isWord(int to, String word) {
      if (to > length || to - at != word.length()) {
        return false;
      }
      for (int i = 0; i < word.length(); i++) {
        if (bytes[at + i] != word.charAt(i)) {
          return false;
        }
      }
      return true;
    }

    /** The number that stands at at; NONE, and the fault is told, if there is none. */
    int readNumber() {
      int from = at;
      int to = endOfDigits();
      if (to == from) {
        blame(from, UNFIT);
        return NONE;
      }
      if (to - from > MOST_DIGITS) {
        blame(from, WRONG_NUMBER);
        return NONE;
      }
      int number = 0;
      for (; at < to; at++) {
        number = 10 * number + bytes[at] - '0';
      }
      return number;
    }
  }

  /** Reads a box's text into a draft, so that the box there was stays if it has a fault. */
  private static final class BoxReader {
    private static final int MOST_CLAUSES = 12;
    private static final int MOST_ROWS = 6;
    private static final int LONGEST_LINE = 6;
    private static final int MOST_BALLS = 3;

    final State draft = new State();

    /** The fault, 0 if there is none. */
    int read(Tape tape) {
      draft.clearBox();
      tape.start();
      for (int clauses = 0; clauses <= MOST_CLAUSES; clauses++) {
        if (!readClause(tape, clauses == MOST_CLAUSES)) {
          return tape.fault;
        }
        tape.skipBlanks();
        if (tape.isAtEnd()) {
          return 0;
        }
        if (tape.signAt(tape.at) != ';') {
          tape.blame(tape.at, Tape.UNFIT);
          return tape.fault;
        }
        tape.at++;
      }
      return tape.fault;
    }

    private boolean readClause(Tape tape, boolean tooMany) {
      tape.skipBlanks();
      int to = tape.endOfWord();
      if (tape.isWord(to, "row")) {
        if (tooMany || draft.rows == MOST_ROWS || draft.balls > 0) {
          return tape.blame(tape.at, Tape.TOO_MANY);
        }
        tape.at = to;
        return readRow(tape);
      }
      if (tape.isWord(to, "ball")) {
        if (tooMany || draft.rows == 0 || draft.balls == MOST_BALLS) {
          return tape.blame(tape.at, Tape.TOO_MANY);
        }
        tape.at = to;
        return readBall(tape);
      }
      return tape.blame(tape.at, Tape.UNFIT);
    }

    private boolean readRow(Tape tape) {
      tape.skipBlanks();
      int from = tape.at;
      for (; tape.at < tape.length; tape.at++) {
        int kind = kindOf(tape.signAt(tape.at));
        if (kind == State.OUTSIDE) {
          break;
        }
        int x = tape.at - from;
        if (x >= LONGEST_LINE || draft.hasHole(kind)) {
          return tape.blame(tape.at, Tape.WRONG_CELL);
        }
        draft.makeKind(State.spotOf(x, draft.rows), kind);
      }
      int signs = tape.at - from;
      if (signs == 0) {
        return tape.blame(tape.at, Tape.UNFIT);
      }
      if (draft.rows > 0 && signs != draft.columns) {
        return tape.blame(tape.at - 1, Tape.WRONG_CELL);
      }
      draft.columns = signs;
      draft.rows++;
      return true;
    }

    private static int kindOf(int sign) {
      if (sign == '.') {
        return State.PLAIN;
      }
      if (sign == '#') {
        return State.WALL;
      }
      return sign >= '1' && sign <= '3' ? State.FIRST_HOLE + sign - '1' : State.OUTSIDE;
    }

    private boolean readBall(Tape tape) {
      tape.skipBlanks();
      int xPlace = tape.at;
      int x = readCoordinate(tape);
      if (x < 0) {
        return false;
      }
      tape.skipBlanks();
      int y = readCoordinate(tape);
      if (y < 0) {
        return false;
      }
      int spot = State.spotOf(x, y);
      if (!draft.isBare(spot)) {
        return tape.blame(xPlace, Tape.WRONG_CELL);
      }
      draft.situation = State.laid(draft.situation, draft.balls, spot);
      draft.balls++;
      return true;
    }

    private static int readCoordinate(Tape tape) {
      int place = tape.at;
      int number = tape.readNumber();
      if (number > State.LAST) {
        tape.blame(place, Tape.WRONG_NUMBER);
        return NONE;
      }
      return number;
    }
  }

  /** A rule as it is worked out: numbers, words and signs, each sign behind what it joins. */
  private static final class Rule {
    // Numbers stand for themselves; all below 0 is a word or a sign.
    static final int FIRST_WORD = -1;
    static final int LAST_WORD = -8;
    static final int NOT = -9;
    static final int AND = -10;
    static final int OR = -11;
    static final int FIRST = -12;
    static final int IF = -13;
    static final int PLUS = -14;
    static final int MINUS = -15;
    static final int TIMES = -16;
    static final int DIVIDED = -17;
    static final int REST = -18;
    static final int LESS = -19;
    static final int SAME = -20;
    static final int MORE = -21;
    static final int CLAUSE_END = -22;
    static final int OPEN = -23;
    static final int CLOSE = -24;
    static final int AT_MOST = -25;
    static final int AT_LEAST = -26;
    static final int MOST_CLAUSES = 12;
    private static final int STACK = 64;

    private final int[] code = new int[Tape.LONGEST];
    private final int[] sumEnds = new int[MOST_CLAUSES];
    private final int[] testEnds = new int[MOST_CLAUSES];
    private final long[] stack = new long[STACK];
    private int length;
    private int clauses;
    // A bit for each word that stands in it.
    private int used;

    void clear() {
      length = 0;
      clauses = 0;
      used = 0;
    }

    void takeOver(Rule other) {
      System.arraycopy(other.code, 0, code, 0, code.length);
      System.arraycopy(other.sumEnds, 0, sumEnds, 0, MOST_CLAUSES);
      System.arraycopy(other.testEnds, 0, testEnds, 0, MOST_CLAUSES);
      length = other.length;
      clauses = other.clauses;
      used = other.used;
    }

    boolean uses(int word) {
      return (used >> word & 1) != 0;
    }

    void add(int part) {
      if (length < code.length) {
        code[length] = part;
        length++;
      }
      if (part <= FIRST_WORD && part >= LAST_WORD) {
        used |= 1 << FIRST_WORD - part;
      }
    }

    void endSum() {
      if (clauses < MOST_CLAUSES) {
        sumEnds[clauses] = length;
      }
    }

    void endClause() {
      if (clauses < MOST_CLAUSES) {
        testEnds[clauses] = length;
        clauses++;
      }
    }

    /** By what a ball is lined up, its words being these. */
    long keyBy(long[] words) {
      int from = 0;
      for (int i = 0; i < clauses; i++) {
        boolean bare = sumEnds[i] == testEnds[i];
        if (bare || workedOut(sumEnds[i], testEnds[i], words) != 0) {
          return workedOut(from, sumEnds[i], words);
        }
        from = testEnds[i];
      }
      return 0;
    }

    private long workedOut(int from, int to, long[] words) {
      int high = 0;
      for (int i = from; i < to; i++) {
        int part = code[i];
        if (part >= LAST_WORD) {
          if (high < STACK) {
            stack[high] = part >= 0 ? part : words[FIRST_WORD - part];
            high++;
          }
        } else if (part == NOT) {
          if (high > 0) {
            stack[high - 1] = 1 - stack[high - 1];
          }
        } else if (high > 1) {
          high--;
          stack[high - 1] = joined(part, stack[high - 1], stack[high]);
        }
      }
      return high > 0 ? stack[high - 1] : 0;
    }

    private static long joined(int sign, long a, long b) {
      switch (sign) {
        case PLUS:
          return a + b;
        case MINUS:
          return a - b;
        case TIMES:
          return a * b;
        case DIVIDED:
          return b == 0 ? 0 : a / b;
        case REST:
          return b == 0 ? 0 : a % b;
        case LESS:
          return a < b ? 1 : 0;
        case AT_MOST:
          return a <= b ? 1 : 0;
        case SAME:
          return a == b ? 1 : 0;
        case AT_LEAST:
          return a >= b ? 1 : 0;
        case MORE:
          return a > b ? 1 : 0;
        case AND:
          return a & b;
        case OR:
          return a | b;
        default:
          return 0;
      }
    }
  }

  /** Reads a rule's text: first all of it into tokens, then these into a draft. */
  private static final class RuleReader {
    // Five bytes a word, in the order of the numbers from Rule.FIRST_WORD downwards.
    private static final String WORDS =
        "ball x    y    aheadway  tips home stepsnot  and  or   firstif   ";
    private static final int WORD_BYTES = 5;
    // In the order of the numbers from Rule.PLUS downwards.
    private static final String SIGNS = "+-*/%<=>;[]";
    private static final int TOO_LONG = -27;
    private static final int UNFIT = -28;
    private static final int TEXT_END = -29;
    private static final int MOST_TOKENS = Tape.LONGEST + 1;
    private static final int MOST_VALUES = 60;
    private static final int DEEPEST = 10;

    private final int[] tokens = new int[MOST_TOKENS];
    private final int[] places = new int[MOST_TOKENS];
    private int tokenCount;
    private int at;
    private int values;
    private int fault;
    final Rule draft = new Rule();

    /** The fault, 0 if there is none. */
    int read(Tape tape) {
      cutUp(tape);
      draft.clear();
      at = 0;
      values = 0;
      fault = 0;
      boolean more = true;
      for (int clauses = 0; more && clauses <= Rule.MOST_CLAUSES; clauses++) {
        more = openClause(clauses == Rule.MOST_CLAUSES) && readSum();
        if (more) {
          draft.endSum();
          more = !takes(Rule.IF) || readTest(0);
        }
        if (more) {
          draft.endClause();
          more = closeClause();
        }
      }
      return fault;
    }

    private boolean openClause(boolean tooMany) {
      if (tokenHere() != Rule.FIRST) {
        return blame(Tape.UNFIT);
      }
      if (tooMany) {
        return blame(Tape.TOO_MANY);
      }
      at++;
      return true;
    }

    /** Whether another clause comes. */
    private boolean closeClause() {
      if (tokenHere() == TEXT_END) {
        return false;
      }
      return takes(Rule.CLAUSE_END) || blame(Tape.UNFIT);
    }

    private boolean takes(int token) {
      if (tokenHere() != token) {
        return false;
      }
      at++;
      return true;
    }

    private void cutUp(Tape tape) {
      tape.start();
      tokenCount = 0;
      int token = 0;
      while (token != TEXT_END && token != UNFIT && tokenCount < MOST_TOKENS) {
        tape.skipBlanks();
        places[tokenCount] = tape.at;
        token = cutToken(tape);
        tokens[tokenCount] = token;
        tokenCount++;
      }
    }

    private static int cutToken(Tape tape) {
      if (tape.isAtEnd()) {
        return TEXT_END;
      }
      int digitsTo = tape.endOfDigits();
      if (digitsTo > tape.at) {
        int number = tape.readNumber();
        tape.at = digitsTo;
        return number < 0 ? TOO_LONG : number;
      }
      int wordTo = tape.endOfWord();
      if (wordTo > tape.at) {
        int word = wordUpTo(tape, wordTo);
        tape.at = wordTo;
        return word;
      }
      return cutSign(tape);
    }

    private static int wordUpTo(Tape tape, int to) {
      int length = to - tape.at;
      if (length > WORD_BYTES) {
        return UNFIT;
      }
      for (int from = 0; from < WORDS.length(); from += WORD_BYTES) {
        int same = 0;
        while (same < length && WORDS.charAt(from + same) == tape.signAt(tape.at + same)) {
          same++;
        }
        if (same == length && (length == WORD_BYTES || WORDS.charAt(from + length) == ' ')) {
          return Rule.FIRST_WORD - from / WORD_BYTES;
        }
      }
      return UNFIT;
    }

    private static int cutSign(Tape tape) {
      int sign = tape.signAt(tape.at);
      int number = SIGNS.indexOf((char) sign);
      tape.at++;
      if (number < 0) {
        return UNFIT;
      }
      boolean orSame = tape.signAt(tape.at) == '=';
      if (orSame && (sign == '<' || sign == '>')) {
        tape.at++;
        return sign == '<' ? Rule.AT_MOST : Rule.AT_LEAST;
      }
      return Rule.PLUS - number;
    }

    /** The token at which the reader is. */
    private int tokenHere() {
      return at < tokenCount ? tokens[at] : TEXT_END;
    }

    /** Always false, so that a reader can end with it. */
    private boolean blame(int kind) {
      if (fault == 0 && at < tokenCount) {
        fault = 1 + 8 * places[at] + kind;
      }
      return false;
    }

    /** An or waits till its right side is worked out, since and binds closer. */
    private boolean readTest(int depth) {
      if (!readFact(depth)) {
        return false;
      }
      boolean orWaits = false;
      for (int i = 0; i < MOST_TOKENS; i++) {
        int word = tokenHere();
        if (word != Rule.AND && word != Rule.OR) {
          break;
        }
        if (word == Rule.OR) {
          if (orWaits) {
            draft.add(Rule.OR);
          }
          orWaits = true;
        }
        at++;
        if (!readFact(depth)) {
          return false;
        }
        if (word == Rule.AND) {
          draft.add(Rule.AND);
        }
      }
      if (orWaits) {
        draft.add(Rule.OR);
      }
      return true;
    }

    private boolean readFact(int depth) {
      int token = tokenHere();
      if (token != Rule.OPEN && token != Rule.NOT) {
        return readComparison();
      }
      if (depth >= DEEPEST) {
        return blame(Tape.TOO_DEEP);
      }
      at++;
      if (token == Rule.NOT) {
        if (!readFact(depth + 1)) {
          return false;
        }
        draft.add(Rule.NOT);
        return true;
      }
      if (!readTest(depth + 1)) {
        return false;
      }
      return takes(Rule.CLOSE) || blame(Tape.UNFIT);
    }

    private boolean readComparison() {
      if (!readSum()) {
        return false;
      }
      int sign = tokenHere();
      boolean compares = sign <= Rule.LESS && sign >= Rule.MORE
          || sign == Rule.AT_MOST || sign == Rule.AT_LEAST;
      if (!compares) {
        return blame(Tape.UNFIT);
      }
      if (values >= MOST_VALUES) {
        return blame(Tape.TOO_MANY_VALUES);
      }
      values++;
      at++;
      if (!readSum()) {
        return false;
      }
      draft.add(sign);
      return true;
    }

    /** A + or - waits till its right side is worked out, since * / and % bind closer. */
    private boolean readSum() {
      if (!readValue()) {
        return false;
      }
      int waiting = 0;
      for (int i = 0; i < MOST_TOKENS; i++) {
        int sign = tokenHere();
        if (sign > Rule.PLUS || sign < Rule.REST) {
          break;
        }
        boolean binds = sign <= Rule.TIMES;
        if (!binds) {
          if (waiting != 0) {
            draft.add(waiting);
          }
          waiting = sign;
        }
        at++;
        if (!readValue()) {
          return false;
        }
        if (binds) {
          draft.add(sign);
        }
      }
      if (waiting != 0) {
        draft.add(waiting);
      }
      return true;
    }

    private boolean readValue() {
      int token = tokenHere();
      if (token == TOO_LONG) {
        return blame(Tape.WRONG_NUMBER);
      }
      if (token < Rule.LAST_WORD) {
        return blame(Tape.UNFIT);
      }
      if (values >= MOST_VALUES) {
        return blame(Tape.TOO_MANY_VALUES);
      }
      values++;
      draft.add(token);
      at++;
      return true;
    }
  }

  /**
   * All that an image holds. Cells stand in eight columns and eight rows, the outer ones being
   * outside of every box, so that a ball's next cell always has a number. A situation is six bits
   * a ball: its cell, or one of two corners for a ball that fell; a ball that the box has not is
   * HOME, so that the situation in which all are HOME is 0 with any number of balls.
   */
  private static final class State {
    static final int OUTSIDE = -1;
    static final int PLAIN = 0;
    static final int WALL = 1;
    static final int FIRST_HOLE = 2;
    static final int SPOTS = 64;
    static final int HOME = 0;
    static final int LOST = 7;
    static final int ALL_HOME = 0;
    static final int LAST = 5;
    static final int CELLS = 36;
    static final int LONGEST_ROW = 8;
    static final int MOST_SOUNDS = 8;
    private static final int TURNS = 8;

    boolean kept;
    boolean boxed;
    int columns;
    int rows;
    int balls;
    int situation;
    int tips;
    int rowLength;
    int soundCount;
    int force = NONE;
    int x;
    final int[] kinds = new int[SPOTS];
    final int[] holes = new int[3];
    final int[] row = new int[LONGEST_ROW];
    final int[] sounds = new int[MOST_SOUNDS];

    State() {
      Arrays.fill(kinds, OUTSIDE);
    }

    static int spotOf(int x, int y) {
      return x < 0 || x > LAST || y < 0 || y > LAST ? NONE : 8 * y + x + 9;
    }

    static int columnOf(int spot) {
      return (spot & 7) - 1;
    }

    static int rowOf(int spot) {
      return (spot >> 3) - 1;
    }

    static int spotIn(int situation, int ball) {
      return situation >> 6 * ball & 63;
    }

    static int numberIn(int situation, int ball) {
      int spot = spotIn(situation, ball);
      return 6 * rowOf(spot) + columnOf(spot);
    }

    static boolean isFallen(int spot) {
      return spot == HOME || spot == LOST;
    }

    static int laid(int situation, int ball, int spot) {
      return situation & ~(63 << 6 * ball) | spot << 6 * ball;
    }

    static int howMany(int situation, int spot) {
      int many = 0;
      for (int ball = 0; ball < 3; ball++) {
        if ((situation >> 6 * ball & 63) == spot) {
          many++;
        }
      }
      return many;
    }

    static boolean hasLost(int situation) {
      return (situation & 63) == LOST || (situation >> 6 & 63) == LOST || situation >> 12 == LOST;
    }

    static int whoLies(int situation, int spot) {
      for (int ball = 0; ball < 3; ball++) {
        if (spotIn(situation, ball) == spot) {
          return ball;
        }
      }
      return NONE;
    }

    /** The beginning of this number, the first ball's cell changing last; NONE if two balls meet. */
    static int beginning(int number, int balls, int[] plain, int plainCount) {
      if (plainCount <= 0) {
        return number == 0 && balls == 0 ? ALL_HOME : NONE;
      }
      int situation = ALL_HOME;
      int rest = number;
      long taken = 0;
      for (int ball = balls - 1; ball >= 0; ball--) {
        int spot = plain[rest % plainCount];
        rest = rest / plainCount;
        if ((taken >>> spot & 1) != 0) {
          return NONE;
        }
        taken |= 1L << spot;
        situation |= spot << 6 * ball;
      }
      return situation;
    }

    /** One above the highest number of a beginning. */
    static int beginningsEnd(int balls, int plainCount) {
      int many = 1;
      for (int ball = 0; ball < balls; ball++) {
        many *= plainCount;
      }
      return many;
    }

    int kindAt(int spot) {
      return spot < 0 || spot >= SPOTS ? OUTSIDE : kinds[spot];
    }

    void makeKind(int spot, int kind) {
      if (spot < 0 || spot >= SPOTS) {
        return;
      }
      kinds[spot] = kind;
      if (kind >= FIRST_HOLE && kind - FIRST_HOLE < holes.length) {
        holes[kind - FIRST_HOLE] = spot;
      }
    }

    boolean hasHole(int kind) {
      return kind >= FIRST_HOLE && kind - FIRST_HOLE < holes.length && holes[kind - FIRST_HOLE] != 0;
    }

    boolean isBare(int spot) {
      return kindAt(spot) == PLAIN && whoLies(situation, spot) == NONE;
    }

    int howManyHome(int of) {
      return howMany(of, HOME) - (3 - balls);
    }

    int howManyWalls() {
      int many = 0;
      for (int spot = 0; spot < SPOTS; spot++) {
        if (kinds[spot] == WALL) {
          many++;
        }
      }
      return many;
    }

    /** NONE without a hole. */
    int stepsHome(int ball, int spot) {
      int hole = ball < 0 || ball >= holes.length ? 0 : holes[ball];
      if (hole == 0) {
        return NONE;
      }
      return Math.abs(columnOf(hole) - columnOf(spot)) + Math.abs(rowOf(hole) - rowOf(spot));
    }

    /** Whether some ball can never be HOME, by whatever tips. */
    boolean isHopeless() {
      for (int ball = 0; ball < balls; ball++) {
        int spot = spotIn(situation, ball);
        if (spot == LOST || spot != HOME && holes[ball] == 0) {
          return true;
        }
      }
      return false;
    }

    /** By rows from above, from the left; into needs CELLS places. */
    int listPlain(int[] into) {
      int many = 0;
      for (int spot = 0; spot < SPOTS; spot++) {
        if (kinds[spot] == PLAIN && many < into.length) {
          into[many] = spot;
          many++;
        }
      }
      return many;
    }

    void clearBox() {
      Arrays.fill(kinds, OUTSIDE);
      Arrays.fill(holes, 0);
      columns = 0;
      rows = 0;
      balls = 0;
      situation = ALL_HOME;
    }

    void beginWith(State told) {
      takeBox(told);
      boxed = true;
      tips = 0;
      rowLength = 0;
      soundCount = 0;
    }

    private void takeBox(State other) {
      System.arraycopy(other.kinds, 0, kinds, 0, SPOTS);
      System.arraycopy(other.holes, 0, holes, 0, 3);
      columns = other.columns;
      rows = other.rows;
      balls = other.balls;
      situation = other.situation;
    }

    void takeOver(State other) {
      takeBox(other);
      boxed = other.boxed;
      tips = other.tips;
      rowLength = other.rowLength;
      soundCount = other.soundCount;
      force = other.force;
      x = other.x;
      System.arraycopy(other.row, 0, row, 0, LONGEST_ROW);
      System.arraycopy(other.sounds, 0, sounds, 0, MOST_SOUNDS);
    }

    boolean isAlike(State other) {
      for (int turn = 0; turn < TURNS; turn++) {
        if (isTurned(other, turn)) {
          return true;
        }
      }
      return false;
    }

    /** Of turn one bit mirrors across, one up and down, one changes columns and rows. */
    private boolean isTurned(State other, int turn) {
      boolean swaps = (turn & 4) != 0;
      if (columns != (swaps ? other.rows : other.columns) || rows != (swaps ? other.columns : other.rows)) {
        return false;
      }
      for (int y = 0; y < rows; y++) {
        for (int x = 0; x < columns; x++) {
          int across = (turn & 1) == 0 ? x : columns - 1 - x;
          int down = (turn & 2) == 0 ? y : rows - 1 - y;
          int there = swaps ? spotOf(down, across) : spotOf(across, down);
          if (!showsSame(spotOf(x, y), other, there)) {
            return false;
          }
        }
      }
      return true;
    }

    private boolean showsSame(int here, State other, int there) {
      return kindAt(here) == other.kindAt(there)
          && whoLies(situation, here) == whoLies(other.situation, there);
    }
  }

  /** Tips a box: has the rules, and lines the balls up by the one in force. */
  private static final class Roller {
    static final int MOST_RULES = 6;
    private static final int LONGEST_WAY = 6;
    private static final int[] STEPS = {-8, 1, 8, -1};
    // Places among the words, in the order of RuleReader.WORDS.
    private static final int AHEAD = 3;
    private static final int HOME = 6;
    private static final int STEPS_HOME = 7;

    private final Rule[] rules = new Rule[MOST_RULES];
    private final long[] words = new long[8];
    private final long[] keys = new long[3];
    private final int[] order = new int[3];
    private int lined;
    int ruleCount;
    int hits;
    int falls;

    Roller() {
      for (int i = 0; i < MOST_RULES; i++) {
        rules[i] = new Rule();
      }
    }

    void addRule(Rule told) {
      if (ruleCount < MOST_RULES) {
        rules[ruleCount].takeOver(told);
        ruleCount++;
      }
    }

    /** The situation behind a tip; hits and falls are of this tip then. */
    int rolled(State state, int situation, int way) {
      hits = 0;
      falls = 0;
      if (way < 0 || way >= STEPS.length) {
        return situation;
      }
      boolean ruled = state.force >= 0 && state.force < ruleCount && someMeet(situation, way);
      lined = 0;
      for (int ball = 0; ball < state.balls; ball++) {
        int spot = State.spotIn(situation, ball);
        if (!State.isFallen(spot)) {
          if (ruled) {
            tellWords(rules[state.force], state, situation, ball, way);
          }
          lineUp(ball, ruled ? rules[state.force].keyBy(words) : lag(spot, way));
        }
      }
      int now = situation;
      for (int i = 0; i < lined; i++) {
        now = rollOne(state, now, order[i], STEPS[way]);
      }
      return now;
    }

    /** Whether two may lie in one line by that way: if none do, none stops another, in any order. */
    private static boolean someMeet(int situation, int way) {
      int line = way == 0 || way == 2 ? 7 : 56;
      int first = situation & line;
      int second = situation >> 6 & line;
      int third = situation >> 12 & line;
      return first == second || first == third || second == third;
    }

    /** Behind those with the same key, which have lesser numbers. */
    private void lineUp(int ball, long key) {
      int at = lined;
      if (at >= order.length) {
        return;
      }
      for (; at > 0 && keys[at - 1] > key; at--) {
        keys[at] = keys[at - 1];
        order[at] = order[at - 1];
      }
      keys[at] = key;
      order[at] = ball;
      lined++;
    }

    /** The less the further a cell lies by that way. */
    private static int lag(int spot, int way) {
      switch (way) {
        case 0:
          return spot >> 3;
        case 1:
          return -(spot & 7);
        case 2:
          return -(spot >> 3);
        default:
          return spot & 7;
      }
    }

    /** What is dear to find is found only if the rule asks for it. */
    private void tellWords(Rule rule, State state, int situation, int ball, int way) {
      int spot = State.spotIn(situation, ball);
      words[0] = ball;
      words[1] = State.columnOf(spot);
      words[2] = State.rowOf(spot);
      words[AHEAD] = rule.uses(AHEAD) ? reach(state, situation, spot, STEPS[way]) : 0;
      words[4] = way;
      words[5] = state.tips;
      words[HOME] = rule.uses(HOME) ? state.howManyHome(situation) : 0;
      words[STEPS_HOME] = rule.uses(STEPS_HOME) ? Math.max(0, state.stepsHome(ball, spot)) : 0;
    }

    /** By how many cells a ball can roll, the hole into which it falls being one of them. */
    private static int reach(State state, int situation, int spot, int step) {
      int first = situation & 63;
      int second = situation >> 6 & 63;
      int third = situation >> 12 & 63;
      int at = spot;
      for (int far = 0; far < LONGEST_WAY; far++) {
        at += step;
        int kind = at < 0 || at >= State.SPOTS ? State.OUTSIDE : state.kinds[at];
        boolean stopped = kind == State.WALL || kind == State.OUTSIDE;
        if (stopped || at == first || at == second || at == third) {
          return far;
        }
        if (kind >= State.FIRST_HOLE) {
          return far + 1;
        }
      }
      return LONGEST_WAY;
    }

    private int rollOne(State state, int situation, int ball, int step) {
      int from = State.spotIn(situation, ball);
      int far = reach(state, situation, from, step);
      if (far == 0) {
        return situation;
      }
      int to = from + far * step;
      int kind = state.kindAt(to);
      if (kind < State.FIRST_HOLE) {
        hits++;
        return State.laid(situation, ball, to);
      }
      falls++;
      return State.laid(situation, ball, kind - State.FIRST_HOLE == ball ? State.HOME : State.LOST);
    }
  }

  /** Fewest tips by all situations. */
  private static final class Search {
    static final int NEVER = -2;
    static final int UNKNOWN = -3;
    private static final int MOST = 4000;

    private final Roller roller;
    private final int[] queue = new int[MOST];
    // Of each situation 4 * the place of the one from which it came, and the way.
    private final int[] cameBy = new int[MOST];
    private final long[] seen = new long[4096];
    private int queued;
    private int homeCameBy;
    private int asOf = NONE;
    int fewest;

    Search(Roller roller) {
      this.roller = roller;
    }

    void keepUp(State state, int changes) {
      if (asOf != changes) {
        fewest = reckoned(state);
        asOf = changes;
      }
    }

    int reckoned(State state) {
      forget();
      if (State.hasLost(state.situation)) {
        return NEVER;
      }
      if (state.situation == State.ALL_HOME) {
        return 0;
      }
      note(state.situation, NONE);
      for (int head = 0; head < queued && head < MOST; head++) {
        for (int way = 0; way < 4; way++) {
          int next = roller.rolled(state, queue[head], way);
          if (next == State.ALL_HOME) {
            homeCameBy = 4 * head + way;
            return tipsBack(homeCameBy);
          }
          if (!State.hasLost(next) && !isSeen(next)) {
            if (queued == MOST) {
              return UNKNOWN;
            }
            note(next, 4 * head + way);
          }
        }
      }
      return NEVER;
    }

    int wayOfPath(int k) {
      if (fewest < 0) {
        return fewest;
      }
      if (k >= fewest) {
        return NEVER;
      }
      int by = homeCameBy;
      for (int left = fewest - 1; left > k && by >= 0; left--) {
        by = cameBy[by >> 2];
      }
      return by & 3;
    }

    private int tipsBack(int last) {
      int tips = 0;
      for (int by = last; by >= 0 && tips <= MOST; by = cameBy[by >> 2]) {
        tips++;
      }
      return tips;
    }

    // The situations that were seen are few among all: clearing these alone is cheaper.
    private void forget() {
      for (int i = 0; i < queued; i++) {
        seen[queue[i] >> 6 & 4095] = 0;
      }
      queued = 0;
    }

    private boolean isSeen(int situation) {
      return (seen[situation >> 6 & 4095] >>> (situation & 63) & 1) != 0;
    }

    private void note(int situation, int by) {
      if (queued < MOST) {
        queue[queued] = situation;
        cameBy[queued] = by;
        queued++;
        seen[situation >> 6 & 4095] |= 1L << (situation & 63);
      }
    }
  }

  /** Walls chipped and put in, each tried upon a box of its own. */
  private static final class Carver {
    private final Search search;
    private final State tried = new State();
    // Both by what a cell is made: PLAIN (chipped) or WALL (put in).
    private final int[] asOf = {NONE, NONE};
    private final int[] bestSpots = new int[2];
    private final int[] bestTips = new int[2];

    Carver(Roller roller) {
      search = new Search(roller);
    }

    void keepUp(State state, int changes, int made) {
      if (made < 0 || made >= asOf.length || asOf[made] == changes) {
        return;
      }
      asOf[made] = changes;
      bestTips[made] = NOT_SO;
      if (state.isHopeless()) {
        return;
      }
      int from = made == State.WALL ? State.PLAIN : State.WALL;
      tried.takeOver(state);
      for (int spot = 0; spot < State.SPOTS; spot++) {
        if (state.kinds[spot] == from && State.whoLies(state.situation, spot) == NONE) {
          tried.kinds[spot] = made;
          noteIfBetter(made, spot, search.reckoned(tried));
          tried.kinds[spot] = from;
        }
      }
    }

    private void noteIfBetter(int made, int spot, int tips) {
      int best = bestTips[made];
      boolean better = made == State.PLAIN ? tips < best : tips > best;
      if (tips >= 0 && (best < 0 || better)) {
        bestTips[made] = tips;
        bestSpots[made] = spot;
      }
    }

    int answer(int made, int what) {
      if (made < 0 || made >= asOf.length || bestTips[made] < 0) {
        return NOT_SO;
      }
      int spot = bestSpots[made];
      return what == 0 ? State.columnOf(spot) : what == 1 ? State.rowOf(spot) : bestTips[made];
    }
  }

  /** All situations of at most two balls at once: the row for all beginnings, the hardest one. */
  private static final class Pairs {
    static final int LONGEST_BLIND = 6;
    private static final int SITUATIONS = 4096;
    private static final int MOST_BEGINNINGS = 36 * 35;
    private static final int UNREACHED = -2;
    // Above what all rows of 6 tips can need: each is gone into once and out of once.
    private static final int MOST_STEPS = 20000;

    private final Roller roller;
    private final int[] plain = new int[State.CELLS];
    private final int[] reached = new int[4 * SITUATIONS];
    private final int[] far = new int[SITUATIONS];
    private final int[] listed = new int[37 * 37];
    private final int[] marks = new int[SITUATIONS];
    private final int[] sets = new int[(LONGEST_BLIND + 1) * MOST_BEGINNINGS];
    private final int[] sizes = new int[LONGEST_BLIND + 1];
    private final int[] tried = new int[LONGEST_BLIND + 1];
    private int listedCount;
    private int mark;
    private int asOf = NONE;
    private int lengthsTried;
    private int blindFound;
    int hardestFar;
    int hardestStart;

    Pairs(Roller roller) {
      this.roller = roller;
    }

    void keepUp(State state, int changes) {
      if (asOf == changes) {
        return;
      }
      asOf = changes;
      int plainCount = state.listPlain(plain);
      listSituations(state.balls, plainCount);
      rollAll(state);
      reckonFar();
      listBeginnings(state.balls, plainCount);
      lengthsTried = 0;
      blindFound = NONE;
    }

    /** How many tips the shortest row has, NONE if none of at most n tips does it. */
    int blindLength(int n) {
      for (; blindFound < 0 && lengthsTried <= n; lengthsTried++) {
        if (findsRow(lengthsTried)) {
          blindFound = lengthsTried;
        }
      }
      return blindFound <= n ? blindFound : NONE;
    }

    int wayOfBlind(int k) {
      return k < 0 || k >= blindFound ? NOT_SO : tried[k] - 1;
    }

    /** Those in which nobody is lost. */
    private void listSituations(int balls, int plainCount) {
      listedCount = 0;
      int mostA = balls > 0 ? plainCount : 0;
      int mostB = balls > 1 ? plainCount : 0;
      for (int a = -1; a < mostA; a++) {
        for (int b = -1; b < mostB; b++) {
          if ((a < 0 || a != b) && listedCount < listed.length) {
            int spotA = a < 0 ? State.HOME : plain[a];
            int spotB = b < 0 ? State.HOME : plain[b];
            listed[listedCount] = spotA + 64 * spotB;
            listedCount++;
          }
        }
      }
    }

    private void rollAll(State state) {
      for (int i = 0; i < listedCount; i++) {
        for (int way = 0; way < 4; way++) {
          int next = roller.rolled(state, listed[i], way);
          boolean lost = State.hasLost(next) || next >= SITUATIONS;
          reached[4 * listed[i] + way] = lost ? NONE : next;
        }
      }
    }

    private void reckonFar() {
      Arrays.fill(far, UNREACHED);
      far[State.ALL_HOME] = 0;
      boolean more = true;
      for (int round = 1; more && round <= SITUATIONS; round++) {
        more = false;
        for (int i = 0; i < listedCount; i++) {
          int situation = listed[i];
          if (far[situation] == UNREACHED && comesTo(situation, round - 1)) {
            far[situation] = round;
            more = true;
          }
        }
      }
    }

    private boolean comesTo(int situation, int tips) {
      for (int way = 0; way < 4; way++) {
        int next = reached[4 * situation + way];
        if (next >= 0 && far[next] == tips) {
          return true;
        }
      }
      return false;
    }

    private void listBeginnings(int balls, int plainCount) {
      hardestFar = NOT_SO;
      hardestStart = State.ALL_HOME;
      sizes[0] = 0;
      int end = State.beginningsEnd(balls, plainCount);
      for (int number = 0; number < end; number++) {
        int situation = State.beginning(number, balls, plain, plainCount);
        if (situation >= 0 && situation < SITUATIONS && sizes[0] < MOST_BEGINNINGS) {
          sets[sizes[0]] = situation;
          sizes[0]++;
          if (far[situation] > hardestFar) {
            hardestFar = far[situation];
            hardestStart = situation;
          }
        }
      }
    }

    /** Goes through the rows of that length in their order; tried has the ways plus 1 then. */
    private boolean findsRow(int length) {
      if (length > LONGEST_BLIND || !startsCanDo(length)) {
        return false;
      }
      int depth = 0;
      tried[0] = 0;
      for (int i = 0; i < MOST_STEPS && depth >= 0; i++) {
        if (depth == length) {
          return true;
        }
        if (tried[depth] == 4) {
          depth--;
        } else {
          tried[depth]++;
          if (goesOn(depth, tried[depth] - 1, length - depth - 1)) {
            depth++;
            tried[depth] = 0;
          }
        }
      }
      return false;
    }

    private boolean startsCanDo(int left) {
      for (int i = 0; i < sizes[0]; i++) {
        int tips = far[sets[i]];
        if (tips < 0 || tips > left) {
          return false;
        }
      }
      return true;
    }

    /** Whether behind one tip more each situation of the set still can come home in time. */
    private boolean goesOn(int depth, int way, int left) {
      int from = depth * MOST_BEGINNINGS;
      int to = from + MOST_BEGINNINGS;
      int many = 0;
      mark++;
      for (int i = 0; i < sizes[depth]; i++) {
        int next = reached[4 * sets[from + i] + way];
        if (next < 0 || far[next] < 0 || far[next] > left) {
          return false;
        }
        if (marks[next] != mark) {
          marks[next] = mark;
          sets[to + many] = next;
          many++;
        }
      }
      sizes[depth + 1] = many;
      return true;
    }
  }

  /** Where balls began, by what was heard. */
  private static final class Listener {
    private static final int SOUND_KINDS = 16;

    private final Roller roller;
    private final int[] plain = new int[State.CELLS];
    // Of each ball the spots in those that fit, as bits.
    private final long[] spots = new long[3];
    // Of each way, and what would be heard, how many of those that fit make it.
    private final int[] alike = new int[4 * SOUND_KINDS];
    private int asOf = NONE;
    private boolean tellsToo;
    int fitting;
    int firstStart;
    int tellingWay;
    int mostAlike;

    Listener(Roller roller) {
      this.roller = roller;
    }

    static int packed(int way, int hits, int falls) {
      return SOUND_KINDS * way + heard(hits, falls);
    }

    private static int heard(int hits, int falls) {
      return (hits & 3) + 4 * (falls & 3);
    }

    long cellsOf(int ball) {
      long cells = 0;
      for (int number = 0; number < State.CELLS && ball >= 0 && ball < spots.length; number++) {
        int spot = State.spotOf(number % 6, number / 6);
        cells |= (spots[ball] >>> spot & 1) << number;
      }
      return cells;
    }

    /** What tells is reckoned only if it is asked, since it costs four tips more of each that fits. */
    void keepUp(State state, int changes, boolean alsoTells) {
      if (asOf == changes && (tellsToo || !alsoTells)) {
        return;
      }
      asOf = changes;
      tellsToo = alsoTells;
      fitting = 0;
      Arrays.fill(spots, 0);
      Arrays.fill(alike, 0);
      int plainCount = state.listPlain(plain);
      int end = State.beginningsEnd(state.balls, plainCount);
      for (int number = 0; number < end; number++) {
        int start = State.beginning(number, state.balls, plain, plainCount);
        int now = start < 0 ? NONE : behindSounds(state, start);
        if (now >= 0) {
          noteFit(state.balls, start);
          if (alsoTells) {
            listenOn(state, now);
          }
        }
      }
      chooseWay();
    }

    /** The situation behind all tips, NONE as soon as one sounds otherwise. */
    private int behindSounds(State state, int start) {
      int now = start;
      for (int i = 0; i < state.soundCount; i++) {
        int sound = state.sounds[i];
        now = roller.rolled(state, now, sound / SOUND_KINDS);
        if (heard(roller.hits, roller.falls) != sound % SOUND_KINDS) {
          return NONE;
        }
      }
      return now;
    }

    private void noteFit(int balls, int start) {
      if (fitting == 0) {
        firstStart = start;
      }
      fitting++;
      for (int ball = 0; ball < balls; ball++) {
        spots[ball] |= 1L << State.spotIn(start, ball);
      }
    }

    private void listenOn(State state, int now) {
      for (int way = 0; way < 4; way++) {
        roller.rolled(state, now, way);
        alike[packed(way, roller.hits, roller.falls)]++;
      }
    }

    private void chooseWay() {
      tellingWay = NONE;
      for (int way = 0; way < 4; way++) {
        int most = 0;
        for (int i = 0; i < SOUND_KINDS; i++) {
          most = Math.max(most, alike[SOUND_KINDS * way + i]);
        }
        if (tellingWay < 0 || most < mostAlike) {
          tellingWay = way;
          mostAlike = most;
        }
      }
    }
  }

  /** Tips that are thought of only: the row, how sure it is, two who tip by turns, tips drawn. */
  private static final class Trial {
    static final int LONGEST_GAME = 8;
    // Far above the steps that two numbers up to 100 to the 8th need.
    private static final int MOST_DIVISIONS = 200;

    private final Roller roller;
    int situation;
    int hits;
    int falls;
    long above;
    long below;
    int timesHome;
    int lost;

    Trial(Roller roller) {
      this.roller = roller;
    }

    void followRow(State state) {
      situation = state.situation;
      hits = 0;
      falls = 0;
      for (int i = 0; i < state.rowLength; i++) {
        roll(state, state.row[i]);
      }
    }

    private void roll(State state, int way) {
      situation = roller.rolled(state, situation, way);
      hits += roller.hits;
      falls += roller.falls;
    }

    void reckonSure(State state, int p) {
      above = 0;
      below = 1;
      for (int i = 0; i < state.rowLength; i++) {
        below *= 100;
      }
      for (int rolling = 0; rolling < 1 << state.rowLength; rolling++) {
        long weight = weightOf(rolling, state.rowLength, p);
        if (weight > 0 && bringsHome(state, rolling)) {
          above += weight;
        }
      }
      long divisor = greatestDivisor(above, below);
      if (divisor > 0) {
        above /= divisor;
        below /= divisor;
      }
    }

    private static long weightOf(int rolling, int tips, int p) {
      long weight = 1;
      for (int i = 0; i < tips; i++) {
        weight *= (rolling >> i & 1) == 0 ? p : 100 - p;
      }
      return weight;
    }

    private boolean bringsHome(State state, int rolling) {
      int now = state.situation;
      for (int i = 0; i < state.rowLength; i++) {
        if ((rolling >> i & 1) != 0) {
          now = roller.rolled(state, now, state.row[i]);
        }
      }
      return now == State.ALL_HOME;
    }

    private static long greatestDivisor(long a, long b) {
      long greater = b;
      long less = a;
      for (int i = 0; i < MOST_DIVISIONS && less != 0; i++) {
        long rest = greater % less;
        greater = less;
        less = rest;
      }
      return greater;
    }

    /** The first's way; NONE: all are home now, NOT_SO: it can't have it. */
    int winningWay(State state, int n) {
      if (state.situation == State.ALL_HOME) {
        return NONE;
      }
      if (n <= 0 || state.isHopeless()) {
        return NOT_SO;
      }
      for (int way = 0; way < 4; way++) {
        int next = roller.rolled(state, state.situation, way);
        if (comesHome(state, next, n - 1, false)) {
          return way;
        }
      }
      return NOT_SO;
    }

    /** Whether the first has it, whoever tips next; left is at most LONGEST_GAME. */
    private boolean comesHome(State state, int now, int left, boolean firstTips) {
      if (now == State.ALL_HOME) {
        return true;
      }
      if (left <= 0 || left > LONGEST_GAME || State.hasLost(now)) {
        return false;
      }
      for (int way = 0; way < 4; way++) {
        int next = roller.rolled(state, now, way);
        if (comesHome(state, next, left - 1, !firstTips) == firstTips) {
          return firstTips;
        }
      }
      return !firstTips;
    }

    void shake(State state, int times, int tips) {
      long x = state.x;
      hits = 0;
      falls = 0;
      timesHome = 0;
      lost = 0;
      for (int time = 0; time < times; time++) {
        situation = state.situation;
        for (int i = 0; i < tips; i++) {
          x = x * 1103515245L + 12345L & 2147483647L;
          roll(state, (int) (x / 65536 % 4));
        }
        timesHome += situation == State.ALL_HOME ? 1 : 0;
        lost += State.howMany(situation, State.LOST);
      }
    }
  }
}

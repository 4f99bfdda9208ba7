/** Promise 27: book. */
public final class Promise27BookTest {
  private static final String[] TURNS = {
    "row 1.#;row ..2;ball 1 0;ball 0 1", "row #.1;row 2..;ball 1 0;ball 2 1",
    "row ..2;row 1.#;ball 1 1;ball 0 0", "row 2..;row #.1;ball 1 1;ball 2 0",
    "row 1.;row ..;row #2;ball 0 1;ball 1 0", "row .1;row ..;row 2#;ball 1 1;ball 0 0",
    "row #2;row ..;row 1.;ball 0 1;ball 1 2", "row 2#;row ..;row .1;ball 1 1;ball 0 2"
  };

  public static void main(String[] args) {
    Check.run(Promise27BookTest.class);
  }

  private static void books(BallBox x, String box, int due) {
    Texts.box(x, box);
    Check.due(box, due, x.book());
  }

  static void promise27AnswersItsNumber() {
    BallBox x = new BallBox();
    String[] boxes = {"row .", "row ..", "row ...", "row ....", "row .....", "row ......", "row #", "row ##"};
    for (int i = 0; i < 8; i++) {
      books(x, boxes[i], i);
      Check.due("count(10)", i + 1, x.count(10));
    }
  }

  static void promise27NinthIsRefused() {
    BallBox x = Bases.full();
    books(x, "row ###", -2);
    Check.due("count(10)", 8, x.count(10));
    Check.due("pain(8)", -1, x.pain(8));
    Bases.leaves("one that is alike, as it is full", Bases::full, -2, BallBox::book);
  }

  static void promise27NinthLeavesAll() {
    BallBox x = Bases.full();
    x.wall(0, 1, true);
    Check.due("a ninth", -2, x.book());
    BallBox y = Bases.full();
    y.wall(0, 1, true);
    Check.same("behind a ninth", Whole.of(y), Whole.of(x));
  }

  static void promise27TheSameIsRefused() {
    BallBox x = new BallBox();
    books(x, "row 1..;ball 2 0", 0);
    Check.due("again", -2, x.book());
    books(x, "row 1..;ball 2 0", -2);
    Check.due("count(10)", 1, x.count(10));
  }

  static void promise27AlikeLeavesAll() {
    Bases.leaves("again", () -> booked("row 1..;ball 2 0"), -2, BallBox::book);
    Bases.leaves("again, with two balls", () -> booked(TURNS[0]), -2, BallBox::book);
  }

  private static BallBox booked(String box) {
    BallBox x = Texts.boxed(box);
    x.press(1);
    x.book();
    return x;
  }

  static void promise27EachTurnIsAlike() {
    for (String in : TURNS) {
      BallBox x = Texts.boxed(in);
      Check.due("in the book", 0, x.book());
      for (String other : TURNS) {
        books(x, other, -2);
      }
    }
  }

  static void promise27HolesByTheirNumbers() {
    BallBox x = Texts.boxed(TURNS[0]);
    x.book();
    books(x, "row 2.#;row ..1;ball 1 0;ball 0 1", 1);
    books(x, "row 1.#;row ..3;ball 1 0;ball 0 1", 2);
    books(x, "row 1.#;row ...;ball 1 0;ball 0 1", 3);
  }

  static void promise27BallsByTheirNumbers() {
    BallBox x = Texts.boxed(TURNS[0]);
    x.book();
    books(x, "row 1.#;row ..2;ball 0 1;ball 1 0", 1);
    books(x, "row 1.#;row ..2;ball 1 0", 2);
    books(x, "row 1.#;row ..2;ball 1 0;ball 1 1", 3);
    books(x, "row 1.#;row ..2;ball 1 0;ball 0 1;ball 1 1", 4);
  }

  static void promise27WallsTell() {
    BallBox x = Texts.boxed(TURNS[0]);
    x.book();
    books(x, "row 1..;row ..2;ball 1 0;ball 0 1", 1);
    books(x, "row 1.#;row .#2;ball 1 0;ball 0 1", 2);
  }

  static void promise27ColumnsAndRowsTell() {
    BallBox x = new BallBox();
    books(x, "row ...;row ...", 0);
    books(x, "row ...", 1);
    books(x, "row ..;row ..", 2);
    books(x, "row ..;row ..;row ..", -2);
    books(x, "row .;row .;row .", -2);
    books(x, "row ...;row ...;row ...", 3);
    books(x, "row ......", 4);
  }

  static void promise27AsItIsNow() {
    BallBox x = new BallBox();
    books(x, "row 1..;ball 2 0", 0);
    x.put(0, 1, 0);
    Check.due("a ball elsewhere", 1, x.book());
    x.wall(2, 0, true);
    Check.due("a wall more", 2, x.book());
    x.wall(2, 0, false);
    Check.due("as the second", -2, x.book());
    x.tip(1);
    Check.due("tipped: as the first", -2, x.book());
    x.tip(3);
    Check.due("home", 3, x.book());
  }

  static void promise27ItDoesNotChangeInTheBook() {
    BallBox x = new BallBox();
    books(x, "row 1..;ball 2 0", 0);
    x.wall(1, 0, true);
    x.put(0, 1, 0);
    books(x, "row ..1;ball 0 0", -2);
  }

  static void promise27WhoFellIsNotInIt() {
    BallBox x = Texts.boxed("row .1;ball 0 0");
    x.tip(1);
    Check.due("with one that is home", 0, x.book());
    books(x, "row 1.", -2);
    books(x, "row .1;ball 0 0", 1);
    BallBox y = Texts.boxed("row .2;ball 0 0");
    y.tip(1);
    Check.due("with one that is lost", 0, y.book());
    books(y, "row 2.", -2);
  }

  static void promise27NothingElseTells() {
    BallBox x = Texts.boxed("row 1..;ball 2 0");
    x.book();
    x.tip(0);
    x.press(1);
    x.sound(0, 0, 0);
    x.seed(5);
    Texts.rule(x, "first ball");
    x.force(0);
    Check.due("alike all the same", -2, x.book());
  }

  static void promise27WithoutABox() {
    Bases.leaves("book()", Bases::bare, -1, BallBox::book);
    Bases.leaves("book()", Bases::fresh, -1, BallBox::book);
  }

  static void promise27WithoutABoxThoughOneIsInTheBook() {
    BallBox x = new BallBox();
    x.image(0);
    Texts.box(x, "row .");
    x.book();
    x.back(0);
    Check.due("book()", -1, x.book());
    Check.due("count(10)", 1, x.count(10));
  }

  static void promise27LeavesAllElse() {
    BallBox x = Texts.boxed("row ..1;ball 0 0;ball 1 0");
    x.press(1);
    x.book();
    Check.due("tips", 0, x.count(5));
    Check.due("row", 1, x.count(8));
    Check.due("ball 0", 0, x.ball(0, 0));
    Check.due("may", 20, x.may(1));
  }
}

/** Each promise of the document: ordinary inputs, edges and wrong inputs. */
public final class PromiseTest {
  private static final int[] NO_CONSTANTS = {-1, 4, 5, Integer.MIN_VALUE, Integer.MAX_VALUE, 1 << 30};
  private static final int[] NO_NUMBERS = {-1, 2, 3, Integer.MIN_VALUE, Integer.MAX_VALUE, 1 << 31};

  public static void main(String[] args) {
    promise1NewObject();
    promise2Key();
    promise3Back();
    promise4EnterNoStatement();
    promise4EnterFactsAndMarks();
    promise4EnterClauses();
    promise4EnterEmptiesTheLine();
    promise5Facts();
    promise6Holds();
    promise7Mark();
    promise8Drop();
    promise9Clauses();
    promise10Literals();
    promise11Literal();
    promise12Letter();
    promise13Subsumes();
    promise14Given();
    promise15Rounds();
    promise16Fits();
    promise17LearnOneClause();
    promise17LearnTwoClauses();
    promise17LearnChoosesTheFirst();
    promise17LearnNothing();
    Check.end();
  }

  private static void promise1NewObject() {
    Counted x = new Counted();
    Check.due("facts(0) of a new object", 0, x.facts(0));
    Check.due("facts(1) of a new object", 0, x.facts(1));
    for (int pair = 0; pair < 16; pair++) {
      Check.due("holds(0) of a new object", false, x.holds(0, pair / 4, pair % 4));
      Check.due("holds(1) of a new object", false, x.holds(1, pair / 4, pair % 4));
      Check.due("mark of a new object", 0, x.mark(pair / 4, pair % 4));
      Check.due("given of a new object", 0, x.given(pair / 4, pair % 4));
    }
    Check.due("clauses() of a new object", 0, x.clauses());
    Check.due("rounds() of a new object", 0, x.rounds());
    Check.due("fits() of a new object", true, x.fits());
    Check.due("text of a new object", "", Check.text(x));
    Check.due("back() of a new object", false, x.back());
    Check.due("enter() of a new object", -1, x.enter());

    Counted used = Check.with("a(0,1)", "+t(0,1)", "t(X,Y):-a(X,Y)");
    Check.due("clauses() of the used object", 1, used.clauses());
    Check.due("clauses() of another object", 0, new Counted().clauses());
    Check.due("facts(0) of another object", 0, new Counted().facts(0));
  }

  private static void promise2Key() {
    Counted x = new Counted();
    char[] refused = {0, 9, 10, 31, 127, 128, 160, 255, 256 + 'a', '\uFFFF'};
    for (char c : refused) {
      Check.due("key " + (int) c, false, x.key(c));
    }
    Check.due("back after refused keys", false, x.back());
    for (char c = 32; c <= 126; c++) {
      Check.due("key " + (int) c, true, x.key(c));
      Check.due("back after key " + (int) c, true, x.back());
    }

    Check.type(x, "a(1,2");
    for (char c : refused) {
      Check.due("key " + (int) c + " within a line", false, x.key(c));
    }
    Check.enters(x, 1, ")");
    Check.due("holds after refused keys", true, x.holds(0, 1, 2));

    Check.type(x, "a(1,3)" + " ".repeat(26));
    Check.due("key 33 of a line", false, x.key(' '));
    Check.due("key 34 of a line", false, x.key('a'));
    for (int i = 0; i < 26; i++) {
      Check.due("back in a full line", true, x.back());
    }
    Check.due("enter of what is left", 1, x.enter());
    Check.type(x, "x".repeat(32));
    Check.due("back in a full line", true, x.back());
    Check.due("key after back in a full line", true, x.key('~'));
    Check.due("key in a line that is full again", false, x.key('~'));
  }

  private static void promise3Back() {
    Counted x = new Counted();
    Check.due("back in an empty line", false, x.back());
    Check.type(x, "b(0,0");
    Check.due("back", true, x.back());
    Check.enters(x, 1, "3)");
    Check.due("holds(1, 0, 3)", true, x.holds(1, 0, 3));
    Check.due("holds(1, 0, 0)", false, x.holds(1, 0, 0));
    Check.due("back after enter", false, x.back());
    Check.type(x, "ab");
    Check.due("back, first", true, x.back());
    Check.due("back, second", true, x.back());
    Check.due("back, third", false, x.back());
    Check.due("enter after it", -1, x.enter());
  }

  private static void promise4EnterNoStatement() {
    Check.newEnters(-1, "", "x", "c(0,1)", "T(X,Y):-a(X,Y)", " a(0,1)", "(", "0", "A(0,1)", "f(0,1)",
        "r(0,1)", "v");
    Check.newEnters(-2, "a", "b", "t", "~", "+", "-", "aa", "a ", "+a(0,1)", "-b(0,1)", "+r(0,1)",
        "~~a(0,1)", "~c(0,1)", "tX", "++", "t~");
    Check.newEnters(-3, "a(", "b(", "a(4,0)", "a(X,Y)", "~a", "~t", "+t", "-t", "~t~", "+tt", "t(",
        "t(0,1)", "t(Y,X):-a(X,Y)", "b(-1,0)", "a(c,c)", "t(x,y)");
    Check.newEnters(-4, "a(0", "a(00)", "+t(", "~b(", "-t(4,0)", "t(X", "a(0;1)", "~a(X,0)");
    Check.newEnters(-5, "a(0,", "a(0,4)", "a(0, 1)", "t(X,", "t(X,X):-a(X,Y)", "t(X,Z)", "b(3,c)");
    Check.newEnters(-6, "a(0,1", "a(0,1]", "t(X,Y", "t(X,Y,", "a(0,12)");
    Check.newEnters(-7, "a(0,1)x", "a(0,1) ", "a(0,1),", "t(X,Y)", "t(X,Y).", "~a(0,1", "+t(0,1]",
        "b(3,3)b(3,3)");
    Check.newEnters(-8, "~a(0,1);", "+t(0,1)+", "-t(0,1) ", "t(X,Y):", "t(X,Y):a(X,Y)", "~t(0,0)0");
    Check.newEnters(-9, "t(X,Y):-", "t(X,Y):-c(X,Y)", "t(X,Y):-~a(X,Y)", "t(X,Y):-,");
    Check.newEnters(-10, "t(X,Y):-a", "t(X,Y):-ab");
    Check.newEnters(-11, "t(X,Y):-a(", "t(X,Y):-a(0,1)", "t(X,Y):-a(W,X)", "t(X,Y):-t(v,v)");
    Check.newEnters(-12, "t(X,Y):-a(X", "t(X,Y):-b(Z;");
    Check.newEnters(-13, "t(X,Y):-a(X,", "t(X,Y):-a(X,3)", "t(X,Y):-a(X,y)");
    Check.newEnters(-14, "t(X,Y):-a(X,Y", "t(X,Y):-a(X,Y,");
    Check.newEnters(-15, "t(X,Y):-a(X,Y).", "t(X,Y):-a(X,Y);", "t(X,Y):-a(X,Y)b(X,Y)");
    Check.newEnters(-16, "t(X,Y):-a(X,Y),", "t(X,Y):-a(X,Y),,", "t(X,Y):-a(X,X), ");
    Check.newEnters(-21, "t(X,Y):-a(X,Y),b(X,Y");
    Check.newEnters(-22, "t(X,Y):-a(X,Y),b(X,Y) ");
    Check.newEnters(-23, "t(X,Y):-a(X,Y),b(X,Y),");
    Check.newEnters(-28, "t(X,Y):-a(X,Y),b(X,Y),t(X,Y");
    Check.newEnters(-29, "t(X,Y):-a(X,Y),b(X,Y),t(X,Y),", "t(X,Y):-a(X,Y),b(X,Y),t(X,Y).",
        "t(X,Y):-a(X,Y),a(X,Y),a(X,Y),a(X");
  }

  private static void promise4EnterFactsAndMarks() {
    Counted x = new Counted();
    Check.enters(x, 1, "a(0,2)", "b(0,2)", "a(2,0)", "b(3,3)", "a(0,0)");
    Check.enters(x, 0, "a(0,2)", "b(0,2)", "a(2,0)", "b(3,3)", "a(0,0)");
    Check.enters(x, 0, "~a(3,3)", "~b(2,0)");
    Check.enters(x, 1, "~a(0,2)", "~b(3,3)");
    Check.enters(x, 0, "~a(0,2)", "~b(3,3)");
    Check.enters(x, 1, "a(0,2)");

    Check.enters(x, 0, "~t(1,2)");
    Check.enters(x, 1, "+t(1,2)");
    Check.enters(x, 0, "+t(1,2)");
    Check.enters(x, 1, "-t(1,2)");
    Check.enters(x, 0, "-t(1,2)");
    Check.enters(x, 1, "+t(1,2)", "~t(1,2)");
    Check.enters(x, 0, "~t(1,2)");
    Check.enters(x, 1, "-t(1,2)", "~t(1,2)");
    Check.enters(x, 0, "~t(1,2)");
    Check.due("facts(0) at the end", 3, x.facts(0));
    Check.due("facts(1) at the end", 1, x.facts(1));
  }

  private static void promise4EnterClauses() {
    Check.newEnters(-100, "t(X,Y):-a(X,Y),a(X,Y)", "t(X,Y):-a(X,Y),b(X,Y),a(X,Y)",
        "t(X,Y):-t(Z,Z),t(Z,Z)", "t(X,Y):-b(X,X),b(X,X),b(X,X)", "t(X,Y):-b(X,Z),a(X,Y),a(X,Y)");
    Check.newEnters(-101, "t(X,Y):-a(X,X)", "t(X,Y):-b(Y,Y)", "t(X,Y):-t(Z,Z)", "t(X,Y):-a(X,Z)",
        "t(X,Y):-a(Z,Y)", "t(X,Y):-a(X,Z),b(X,Z),t(Z,X)", "t(X,Y):-a(Y,Z),b(Y,Y),t(Z,Z)");
    Counted x = new Counted();
    Check.enters(x, -101, "t(X,Y):-a(Z,Y)");
    Check.due("clauses() after a refused one", 0, x.clauses());
    Check.enters(x, 10, "t(X,Y):-t(Z,Y),a(X,Z)");
    Check.enters(x, -102, "t(X,Y):-t(Z,Y),a(X,Z)", "t(X,Y):-a(X,Z),t(Z,Y)");
    Check.enters(x, -100, "t(X,Y):-a(X,Z),a(X,Z)");
    Check.enters(x, 11, "t(X,Y):-a(X,X),b(Y,Y),t(Y,X)");
    Check.enters(x, -102, "t(X,Y):-t(Y,X),b(Y,Y),a(X,X)", "t(X,Y):-a(X,Z),t(Z,Y)");
    Check.enters(x, -103, "t(X,Y):-a(X,Y)", "t(X,Y):-a(X,Z),t(Z,Y),b(X,X)");
    Check.enters(x, -101, "t(X,Y):-a(X,X)");
    Check.enters(x, -100, "t(X,Y):-a(X,X),a(X,X)");
    Check.due("text after all", "t(X,Y):-a(X,Z),t(Z,Y);t(X,Y):-a(X,X),b(Y,Y),t(Y,X)", Check.text(x));

    for (String body : new String[] {"a(X,Y)", "b(Y,X)", "t(X,Y)", "a(X,X),a(Y,Y)", "b(Z,X),b(Y,Z)"}) {
      Check.enters(new Counted(), 10, "t(X,Y):-" + body);
    }
  }

  private static void promise4EnterEmptiesTheLine() {
    Counted x = new Counted();
    String[] lines = {"", "?", "a(0,1)", "a(0,1)", "~a(0,1)", "+t(0,1)", "t(X,Y):-a(X,Y)", "t(X,Y):-a(X,Y)",
        "t(X,Y):-a(X,X)", "t(X,Y):-b(X,Y)", "t(X,Y):-b(Y,X)", "x".repeat(32)};
    for (String line : lines) {
      Check.enter(x, line);
      Check.due("back after enter of " + line, false, x.back());
      Check.due("enter after enter of " + line, -1, x.enter());
    }
  }

  private static void promise5Facts() {
    Counted x = Check.with("a(0,0)", "a(3,3)", "b(1,2)", "a(1,2)");
    Check.due("facts(0)", 3, x.facts(0));
    Check.due("facts(1)", 1, x.facts(1));
    for (int relation : NO_NUMBERS) {
      Check.due("facts(" + relation + ")", -1, x.facts(relation));
    }
    Check.enters(x, 1, "~a(3,3)", "+t(0,0)");
    Check.due("facts(0) after one is gone", 2, x.facts(0));
    Check.due("facts(2) after a mark", -1, x.facts(2));

    Counted full = new Counted();
    for (int pair = 0; pair < 16; pair++) {
      Check.enters(full, 1, "b(" + pair / 4 + "," + pair % 4 + ")");
      Check.due("facts(1) while they come", pair + 1, full.facts(1));
    }
    Check.due("facts(0) beside a full b", 0, full.facts(0));
  }

  private static void promise6Holds() {
    Counted x = Check.with("a(0,2)", "b(3,1)", "+t(2,2)", "t(X,Y):-a(X,Y)");
    for (int pair = 0; pair < 16; pair++) {
      Check.due("holds(0), pair " + pair, pair == 2, x.holds(0, pair / 4, pair % 4));
      Check.due("holds(1), pair " + pair, pair == 13, x.holds(1, pair / 4, pair % 4));
      Check.due("holds(2), pair " + pair, false, x.holds(2, pair / 4, pair % 4));
    }
    Counted full = new Counted();
    for (int pair = 0; pair < 16; pair++) {
      Check.enters(full, 1, "a(" + pair / 4 + "," + pair % 4 + ")");
    }
    for (int wrong : NO_CONSTANTS) {
      Check.due("holds(0, 0, " + wrong + ")", false, full.holds(0, 0, wrong));
      Check.due("holds(0, " + wrong + ", 0)", false, full.holds(0, wrong, 0));
      Check.due("holds(0, 1, " + wrong + ")", false, full.holds(0, 1, wrong));
    }
    for (int wrong : NO_NUMBERS) {
      Check.due("holds(" + wrong + ", 0, 0)", false, full.holds(wrong, 0, 0));
    }
    Check.enters(full, 1, "~a(2,1)");
    Check.due("holds of a fact that went", false, full.holds(0, 2, 1));
    Check.due("holds of one that stayed", true, full.holds(0, 1, 2));
  }

  private static void promise7Mark() {
    Counted x = Check.with("+t(0,3)", "-t(3,0)", "a(1,1)");
    for (int pair = 0; pair < 16; pair++) {
      int want = pair == 3 ? 1 : pair == 12 ? -1 : 0;
      Check.due("mark, pair " + pair, want, x.mark(pair / 4, pair % 4));
    }
    Check.enters(x, 1, "-t(0,3)", "+t(3,0)");
    Check.due("mark(0, 3), now -", -1, x.mark(0, 3));
    Check.due("mark(3, 0), now +", 1, x.mark(3, 0));
    Check.enters(x, 1, "~t(0,3)", "~t(3,0)");
    Check.due("mark(0, 3), taken back", 0, x.mark(0, 3));
    Check.due("mark(3, 0), taken back", 0, x.mark(3, 0));
    Counted full = new Counted();
    for (int pair = 0; pair < 16; pair++) {
      Check.enters(full, 1, "+t(" + pair / 4 + "," + pair % 4 + ")");
    }
    for (int wrong : NO_CONSTANTS) {
      Check.due("mark(0, " + wrong + ")", 0, full.mark(0, wrong));
      Check.due("mark(" + wrong + ", 0)", 0, full.mark(wrong, 0));
    }
  }

  private static void promise8Drop() {
    Counted x = new Counted();
    Check.due("drop(0) without clauses", false, x.drop(0));
    Check.enters(x, 10, "t(X,Y):-a(X,Y)");
    Check.due("drop(1) with one clause", false, x.drop(1));
    Check.enters(x, 11, "t(X,Y):-b(X,Y)");
    for (int wrong : NO_NUMBERS) {
      Check.due("drop(" + wrong + ")", false, x.drop(wrong));
    }
    Check.due("text after refused drops", "t(X,Y):-a(X,Y);t(X,Y):-b(X,Y)", Check.text(x));
    Check.due("drop(0)", true, x.drop(0));
    Check.due("text after drop(0)", "t(X,Y):-b(X,Y)", Check.text(x));
    Check.enters(x, 11, "t(X,Y):-a(X,Y)");
    Check.due("drop(1)", true, x.drop(1));
    Check.due("text after drop(1)", "t(X,Y):-b(X,Y)", Check.text(x));
    Check.due("drop(0) of the last", true, x.drop(0));
    Check.due("clauses() after it", 0, x.clauses());
    Check.due("drop(0) once more", false, x.drop(0));
    Check.enters(x, 10, "t(X,Y):-b(X,Y)");
  }

  private static void promise9Clauses() {
    Counted x = new Counted();
    Check.enters(x, 10, "t(X,Y):-a(X,Y)");
    Check.due("clauses() with one", 1, x.clauses());
    Check.enters(x, 11, "t(X,Y):-b(X,Y)");
    Check.due("clauses() with two", 2, x.clauses());
    Check.enters(x, -103, "t(X,Y):-b(Y,X)");
    Check.due("clauses() after one too many", 2, x.clauses());
    x.drop(0);
    Check.due("clauses() after a drop", 1, x.clauses());
  }

  private static void promise10Literals() {
    Counted x = new Counted();
    Check.due("literals(0) without clauses", -1, x.literals(0));
    Check.enters(x, 10, "t(X,Y):-a(X,Z),b(Z,Y),t(Z,Z)");
    Check.due("literals(0)", 3, x.literals(0));
    Check.due("literals(1) with one clause", -1, x.literals(1));
    Check.enters(x, 11, "t(X,Y):-b(X,Y)");
    Check.due("literals(1)", 1, x.literals(1));
    for (int wrong : NO_NUMBERS) {
      Check.due("literals(" + wrong + ")", -1, x.literals(wrong));
    }
    x.drop(0);
    Check.enters(x, 11, "t(X,Y):-b(X,Y),b(Y,X)");
    Check.due("literals(0) after a drop", 1, x.literals(0));
    Check.due("literals(1) after a drop", 2, x.literals(1));
  }

  private static void promise11Literal() {
    Counted x = Check.with("t(X,Y):-t(Z,Z),b(Y,X),a(X,Z)", "t(X,Y):-t(X,Y)");
    Check.due("literal(0, 0)", 2, x.literal(0, 0));
    Check.due("literal(0, 1)", 12, x.literal(0, 1));
    Check.due("literal(0, 2)", 26, x.literal(0, 2));
    Check.due("literal(0, 3)", -1, x.literal(0, 3));
    Check.due("literal(1, 0)", 19, x.literal(1, 0));
    Check.due("literal(1, 1)", -1, x.literal(1, 1));
    for (int wrong : NO_NUMBERS) {
      Check.due("literal(" + wrong + ", 0)", -1, x.literal(wrong, 0));
      Check.due("literal(1, " + wrong + ")", -1, x.literal(1, wrong));
    }
    x.drop(1);
    Check.due("literal(1, 0) after a drop", -1, x.literal(1, 0));

    String variables = "XYZ";
    for (int code = 0; code < 27; code++) {
      String literal = "abt".charAt(code / 9) + "(" + variables.charAt(code / 3 % 3) + ","
          + variables.charAt(code % 3) + ")";
      // The other literal brings in X and Y and differs from the one that is looked at.
      boolean otherLast = code < 18;
      Counted y = Check.with("t(X,Y):-" + literal + (otherLast ? ",t(X,Y)" : ",a(X,Y)"));
      Check.due("the code of " + literal, code, y.literal(0, otherLast ? 0 : 1));
    }
  }

  private static void promise12Letter() {
    Counted x = new Counted();
    Check.due("letter(0) without clauses", -1, x.letter(0));
    Check.enters(x, 10, "t(X,Y):-t(Z,Y),b(Y,Z),a(X,Z)");
    String one = "t(X,Y):-a(X,Z),b(Y,Z),t(Z,Y)";
    spells(x, one);
    Check.enters(x, 11, "t(X,Y):-b(Y,X)");
    spells(x, one + ";t(X,Y):-b(Y,X)");
    x.drop(0);
    spells(x, "t(X,Y):-b(Y,X)");
    Check.enters(x, 11, "t(X,Y):-t(X,X),t(Y,Y),a(Z,Z)");
    spells(x, "t(X,Y):-b(Y,X);t(X,Y):-a(Z,Z),t(X,X),t(Y,Y)");
    x.drop(0);
    x.drop(0);
    spells(x, "");
  }

  private static void spells(Counted x, String want) {
    for (int k = 0; k < want.length(); k++) {
      Check.due("letter(" + k + ") of " + want, want.charAt(k), x.letter(k));
    }
    int[] outside = {-1, -2, want.length(), want.length() + 1, 58, 1000, Integer.MIN_VALUE, Integer.MAX_VALUE};
    for (int k : outside) {
      Check.due("letter(" + k + ") outside " + want, -1, x.letter(k));
    }
  }

  private static void promise13Subsumes() {
    subsumption("a(X,Y)", "a(X,Y),b(Z,Z)", true, false);
    subsumption("a(X,Y)", "b(X,Y)", false, false);
    subsumption("a(X,Z),a(Y,Z)", "a(X,X),a(Y,X)", true, false);
    subsumption("a(X,Z),a(Y,Z)", "a(X,Y),a(Y,Y)", true, false);
    subsumption("a(X,Z),a(Y,Z)", "a(X,Z),a(Y,Z),t(Z,Z)", true, false);
    subsumption("a(X,Z),b(Z,Y)", "a(X,Y),b(X,Y)", false, false);
    subsumption("a(X,Z),a(X,Y)", "a(X,Y)", true, true);
    subsumption("t(Z,Z),b(X,Y)", "b(X,Y),t(X,X)", true, false);
    subsumption("t(Z,Z),b(X,Y)", "b(X,Y),t(Y,Y)", true, false);
    subsumption("t(Z,Z),b(X,Y)", "b(X,Y),t(X,Y)", false, false);
    // X and Y stay as they are, though another naming of them would do.
    subsumption("a(X,Y)", "a(Y,X)", false, false);
    subsumption("a(X,Y),b(X,X)", "a(Y,X),b(Y,Y)", false, false);
    subsumption("a(X,Y)", "a(X,Z),a(Z,Y)", false, false);
    // The same substitution has to do for all the literals.
    subsumption("a(X,Z),b(Z,Y)", "a(X,Y),b(X,Y)", false, false);
    subsumption("a(X,Z),b(Y,Z)", "a(X,X),b(Y,Y)", false, false);

    Counted x = new Counted();
    Check.due("subsumes(0, 0) without clauses", false, x.subsumes(0, 0));
    Check.enters(x, 10, "t(X,Y):-a(X,Z),b(Z,Y)");
    Check.due("subsumes(0, 0)", true, x.subsumes(0, 0));
    Check.due("subsumes(0, 1) with one clause", false, x.subsumes(0, 1));
    Check.due("subsumes(1, 0) with one clause", false, x.subsumes(1, 0));
    Check.due("subsumes(1, 1) with one clause", false, x.subsumes(1, 1));
    for (int wrong : NO_NUMBERS) {
      Check.due("subsumes(" + wrong + ", 0)", false, x.subsumes(wrong, 0));
      Check.due("subsumes(0, " + wrong + ")", false, x.subsumes(0, wrong));
      Check.due("subsumes(" + wrong + ", " + wrong + ")", false, x.subsumes(wrong, wrong));
    }
  }

  private static void subsumption(String body, String other, boolean there, boolean back) {
    Counted x = Check.with("t(X,Y):-" + body, "t(X,Y):-" + other);
    Check.due(body + " subsumes " + other, there, x.subsumes(0, 1));
    Check.due(other + " subsumes " + body, back, x.subsumes(1, 0));
    Check.due(body + " subsumes itself", true, x.subsumes(0, 0));
    Check.due(other + " subsumes itself", true, x.subsumes(1, 1));
  }

  private static void promise14Given() {
    Counted x = Check.with("a(0,1)", "a(1,2)", "a(2,3)", "t(X,Y):-a(X,Y)", "t(X,Y):-a(X,Z),t(Z,Y)");
    Check.due("given along a chain", "0 1 2 3/0 0 1 2/0 0 0 1/0 0 0 0/", Check.given(x));
    x.drop(1);
    Check.due("given by one clause", "0 1 0 0/0 0 1 0/0 0 0 1/0 0 0 0/", Check.given(x));
    Check.enters(x, 11, "t(X,Y):-t(X,Z),t(Z,Y)");
    Check.due("given with doubling", "0 1 2 3/0 0 1 2/0 0 0 1/0 0 0 0/", Check.given(x));
    x.drop(0);
    Check.due("given by recursion alone", "0 0 0 0/0 0 0 0/0 0 0 0/0 0 0 0/", Check.given(x));
    for (int wrong : NO_CONSTANTS) {
      Check.due("given(0, " + wrong + ")", 0, x.given(0, wrong));
    }

    Counted turned = Check.with("a(0,1)", "a(1,1)", "b(2,1)", "t(X,Y):-b(Y,X)", "t(X,Y):-a(X,X),b(Z,Y)");
    Check.due("given with turned variables", "0 0 0 0/0 1 1 0/0 0 0 0/0 0 0 0/", Check.given(turned));
    // An example is no fact: what is marked + does not hold in a body.
    Counted marked = Check.with("+t(0,1)", "t(X,Y):-t(X,Y)");
    Check.due("given from marks", 0, marked.given(0, 1));
    Counted every = Check.with("a(0,0)", "t(X,Y):-a(Z,Z),a(X,Z),a(Z,Y)", "t(X,Y):-t(X,X),t(Y,Y)");
    Check.due("given(0, 0) of loops", 1, every.given(0, 0));
    for (int wrong : NO_CONSTANTS) {
      Check.due("given(0, " + wrong + ") of loops", 0, every.given(0, wrong));
      Check.due("given(" + wrong + ", 0) of loops", 0, every.given(wrong, 0));
    }
    Check.enters(x, 11, "t(X,Y):-a(X,Y)");
    Check.enters(x, 1, "~a(1,2)");
    Check.due("given after a fact has gone", "0 1 0 0/0 0 0 0/0 0 0 1/0 0 0 0/", Check.given(x));
  }

  private static void promise15Rounds() {
    Counted x = Check.with("t(X,Y):-a(X,Y)", "t(X,Y):-a(X,Z),t(Z,Y)");
    Check.due("rounds() without facts", 0, x.rounds());
    Check.enters(x, 1, "a(0,1)");
    Check.due("rounds() with one fact", 1, x.rounds());
    Check.enters(x, 1, "a(1,2)");
    Check.due("rounds() with two facts", 2, x.rounds());
    Check.enters(x, 1, "a(2,3)");
    Check.due("rounds() with a chain", 3, x.rounds());
    Check.enters(x, 1, "a(3,0)");
    Check.due("rounds() with a ring", 4, x.rounds());
    x.drop(0);
    Check.due("rounds() of recursion alone", 0, x.rounds());

    // One pair leads to the next through a ring of a and a ring of b.
    Counted slow = Check.with("a(0,1)", "a(1,2)", "a(2,3)", "a(3,0)", "b(0,0)",
        "t(X,Y):-b(X,Y)", "t(X,Y):-a(Z,X),t(Y,Z)");
    Check.due("given, a pair a round", "1 0 0 8/2 3 0 0/0 4 5 0/0 0 6 7/", Check.given(slow));
    Check.due("rounds(), a pair a round", 8, slow.rounds());
  }

  private static void promise16Fits() {
    Counted x = new Counted();
    Check.enters(x, 1, "-t(0,0)");
    Check.due("fits(), nothing given and nothing +", true, x.fits());
    Check.enters(x, 1, "+t(0,2)");
    Check.due("fits(), nothing given", false, x.fits());
    Check.enters(x, 10, "t(X,Y):-a(X,Y)");
    Check.due("fits(), without facts", false, x.fits());
    Check.enters(x, 1, "a(0,2)");
    Check.due("fits(), all as marked", true, x.fits());
    Check.enters(x, 1, "a(1,2)");
    Check.due("fits(), a pair more that is not marked", true, x.fits());
    Check.enters(x, 1, "a(0,0)");
    Check.due("fits(), a pair marked - is given", false, x.fits());
    Check.enters(x, 1, "~t(0,0)");
    Check.due("fits(), no longer marked -", true, x.fits());
    Check.enters(x, 1, "+t(3,3)");
    Check.due("fits(), one of the + is missing", false, x.fits());
    Check.enters(x, 11, "t(X,Y):-b(X,Z),b(Y,Z)");
    Check.enters(x, 1, "b(3,1)");
    Check.due("fits(), by two clauses", true, x.fits());
    x.drop(0);
    Check.due("fits(), by the second alone", false, x.fits());
  }

  private static void learns(Counted x, int size, String text) {
    Check.due("learn() for " + text, size, x.learn());
    Check.due("the learnt program", text, Check.text(x));
    Check.due("fits() after learn() of " + text, true, x.fits());
  }

  private static void promise17LearnOneClause() {
    Counted x = new Counted();
    learns(x, 1, "t(X,Y):-a(X,Y)");
    Check.enters(x, 1, "a(0,1)", "-t(0,1)");
    learns(x, 1, "t(X,Y):-a(Y,X)");
    Check.enters(x, 1, "-t(1,0)");
    learns(x, 1, "t(X,Y):-b(X,Y)");
    Check.enters(x, 1, "b(0,1)");
    learns(x, 1, "t(X,Y):-t(X,Y)");
    Check.enters(x, 1, "~t(1,0)");
    learns(x, 1, "t(X,Y):-a(Y,X)");

    Counted chain = Check.with("a(0,1)", "b(1,2)", "a(3,1)", "+t(0,2)", "-t(0,1)", "-t(1,2)");
    learns(chain, 2, "t(X,Y):-a(X,Z),b(Z,Y)");
    Counted next = Check.with("a(0,0)", "a(0,1)", "a(2,3)", "+t(0,1)", "-t(2,3)");
    learns(next, 2, "t(X,Y):-a(X,X),a(X,Y)");
    // Every pair is marked, so that nothing shorter tells (3,1) from the others.
    Counted three = Check.with("a(2,1)", "a(3,2)", "a(0,0)", "b(1,3)", "b(0,3)");
    for (int pair = 0; pair < 16; pair++) {
      Check.enters(three, 1, (pair == 13 ? "+t(" : "-t(") + pair / 4 + "," + pair % 4 + ")");
    }
    learns(three, 3, "t(X,Y):-a(X,Z),a(Z,Y),b(Y,X)");
  }

  private static void promise17LearnTwoClauses() {
    Counted both = Check.with("a(0,1)", "b(2,3)", "+t(0,1)", "+t(2,3)", "-t(0,3)", "-t(1,0)", "-t(3,2)");
    learns(both, 2, "t(X,Y):-a(X,Y);t(X,Y):-b(X,Y)");
    Check.enters(both, 1, "+t(3,2)", "~t(2,3)", "-t(2,3)");
    learns(both, 2, "t(X,Y):-a(X,Y);t(X,Y):-b(Y,X)");

    Counted path = Check.with("a(0,1)", "a(1,2)", "a(2,3)", "+t(0,1)", "+t(0,3)", "+t(1,3)", "-t(1,0)",
        "-t(3,3)");
    path.key('a');
    learns(path, 3, "t(X,Y):-a(X,Y);t(X,Y):-a(X,Z),t(Z,Y)");
    Check.due("rounds() of what was learnt", 3, path.rounds());
    Check.due("the line after learn()", true, path.back());
    Check.due("facts(0) after learn()", 3, path.facts(0));
    Check.due("mark(0, 3) after learn()", 1, path.mark(0, 3));

    Counted mixed = Check.with("b(0,1)", "a(0,2)", "a(2,3)", "+t(0,1)", "+t(0,3)", "-t(0,2)", "-t(2,3)",
        "-t(3,0)", "-t(1,0)", "-t(0,0)", "-t(2,2)");
    learns(mixed, 3, "t(X,Y):-b(X,Y);t(X,Y):-a(X,Z),a(Z,Y)");
  }

  private static void promise17LearnChoosesTheFirst() {
    // Both clauses of one literal fit, a(Y,X) and b(X,Y); the less code is taken.
    Counted codes = Check.with("a(1,0)", "b(0,1)", "+t(0,1)");
    learns(codes, 1, "t(X,Y):-a(Y,X)");
    // Size 2: a single clause comes before the two clauses a(X,Y) and a(Y,X), which fit as well.
    Counted fewer = Check.with("a(0,0)", "a(1,1)", "a(0,1)", "+t(0,1)", "+t(1,0)");
    learns(fewer, 2, "t(X,Y):-a(X,X),a(Y,Y)");
    // A smaller program takes the place of a larger one that fits too.
    Counted larger = Check.with("a(0,1)", "+t(0,1)", "t(X,Y):-a(X,Y),a(Z,Y)", "t(X,Y):-a(X,Y),a(X,Z)");
    Check.due("fits() of the larger one", true, larger.fits());
    learns(larger, 1, "t(X,Y):-a(X,Y)");
  }

  private static void promise17LearnNothing() {
    Counted x = Check.with("+t(0,1)", "t(X,Y):-a(X,Z),b(Z,Y)", "t(X,Y):-t(Y,X)");
    Check.type(x, "a(0");
    Check.due("learn() without facts", 0, x.learn());
    Check.due("the program after it", "t(X,Y):-a(X,Z),b(Z,Y);t(X,Y):-t(Y,X)", Check.text(x));
    Check.enters(x, 1, ",1)");
    Check.due("mark(0, 1) after it", 1, x.mark(0, 1));
    Check.due("learn() with the fact", 1, x.learn());
    Check.due("the program then", "t(X,Y):-a(X,Y)", Check.text(x));
    Check.due("clauses() then", 1, x.clauses());
    // The constants 2 and 3 occur in no fact, so that no program tells them apart.
    Check.enters(x, 1, "+t(2,2)", "-t(3,3)");
    Check.due("learn(), none fits", 0, x.learn());
    Check.due("the program stays", "t(X,Y):-a(X,Y)", Check.text(x));
    Counted empty = Check.with("+t(0,1)");
    Check.due("learn() from an empty program", 0, empty.learn());
    Check.due("clauses() after it", 0, empty.clauses());
  }
}

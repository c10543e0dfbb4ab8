/**
 * The boundary cases in "THE LINE" and in the promises 1 to 4: a new object, key, back and enter.
 * Each test names the sentence that it would fail for.
 */
public final class BoundaryLineTest {
  private static final String LONGEST_STATEMENT = "t(X,Y):-a(X,Y),b(Y,Z),t(Z,X)";

  public static void main(String[] args) {
    lineStatements();
    lineNoLongerMarkedOtherwise();
    lineHasNoBlanks();
    newObjectHasNoFacts();
    newObjectHasNothingMarked();
    newObjectHasNoClauses();
    newObjectGivesNothing();
    newObjectHasAnEmptyLine();
    newObjectsShareNothing();
    keyIsAddedAtTheEnd();
    keyTakesTheFirstAndTheLastCharacter();
    keyRefusesOtherCharacters();
    keyRefusesTheThirtyThird();
    keyRefusedChangesNothing();
    backTakesTheLastCharacter();
    backEmptiesAFullLine();
    backRefusesAnEmptyLine();
    enterEmptiesTheLine();
    enterTellsThePlace();
    enterTellsTheLeastPlace();
    enterTellsTheLength();
    enterRefusesAnEmptyLine();
    enterRefusesWhatStandsBehindAStatement();
    enterRefusesAFullLine();
    enterTellsChangesOfFacts();
    enterTellsChangesOfMarks();
    enterRefusesALiteralTwice();
    enterRefusesAMissingHeadVariable();
    enterRefusesAClauseThatIsThere();
    enterRefusesAThirdClause();
    enterTakesTheFirstReason();
    enterNumbersTheNextClause();
    enterNegativeChangesNothing();
    Check.end();
  }

  /** THE LINE: "A STATEMENT is one of: ...", each of them once. */
  private static void lineStatements() {
    Counted x = Check.with("a(0,2)", "b(3,1)", "+t(1,1)", "-t(2,2)", LONGEST_STATEMENT);
    String entered = "a(0,2) +t(1,1) -t(2,2) b(3,1) " + LONGEST_STATEMENT;
    Check.due("what was entered", entered, Check.state(x));
    Check.enters(x, 1, "~a(0,2)", "~b(3,1)", "~t(1,1)", "~t(2,2)");
    Check.due("what is left", LONGEST_STATEMENT, Check.state(x));
  }

  /** THE LINE: "that pair is marked + (no longer -)", "marked - (no longer +)". */
  private static void lineNoLongerMarkedOtherwise() {
    Counted x = Check.with("-t(0,3)", "+t(0,3)", "a(0,3)", "t(X,Y):-a(X,Y)");
    Check.due("mark(0, 3) after - and +", 1, x.mark(0, 3));
    Check.due("fits() after - and +", true, x.fits());
    Counted y = Check.with("+t(3,0)", "-t(3,0)");
    Check.due("mark(3, 0) after + and -", -1, y.mark(3, 0));
    Check.due("fits() after + and -", true, y.fits());
  }

  /** THE LINE: "There are no blanks.": before, within and behind every kind of statement. */
  private static void lineHasNoBlanks() {
    String[] statements = {"a(0,1)", "b(2,3)", "~a(0,1)", "~b(0,1)", "+t(0,1)", "-t(0,1)",
        "~t(0,1)", "t(X,Y):-a(X,Y)", "t(X,Y):-a(X,Y),b(Y,Z)", LONGEST_STATEMENT};
    for (String statement : statements) {
      for (int p = 0; p <= statement.length(); p++) {
        Check.newEnters(-1 - p, statement.substring(0, p) + " " + statement.substring(p));
      }
    }
  }

  /** Promise 1: "No facts". */
  private static void newObjectHasNoFacts() {
    Counted x = new Counted();
    Check.due("facts(0) of a new object", 0, x.facts(0));
    Check.due("facts(1) of a new object", 0, x.facts(1));
    for (int pair = 0; pair < 16; pair++) {
      Check.due("holds(0) of a new object", false, x.holds(0, pair / 4, pair % 4));
      Check.due("holds(1) of a new object", false, x.holds(1, pair / 4, pair % 4));
    }
  }

  /** Promise 1: "nothing marked". */
  private static void newObjectHasNothingMarked() {
    Counted x = new Counted();
    for (int pair = 0; pair < 16; pair++) {
      Check.due("mark of a new object", 0, x.mark(pair / 4, pair % 4));
    }
  }

  /** Promise 1: "a program without clauses". */
  private static void newObjectHasNoClauses() {
    Counted x = new Counted();
    Check.due("clauses() of a new object", 0, x.clauses());
    Check.due("literals(0) of a new object", -1, x.literals(0));
    Check.due("literal(0, 0) of a new object", -1, x.literal(0, 0));
    Check.due("letter(0) of a new object", -1, x.letter(0));
    Check.due("subsumes(0, 0) of a new object", false, x.subsumes(0, 0));
    Check.due("drop(0) of a new object", false, x.drop(0));
  }

  /** Promise 1: "a program without clauses (which gives nothing)", with facts too. */
  private static void newObjectGivesNothing() {
    Counted x = new Counted();
    Check.due("rounds() of a new object", 0, x.rounds());
    Check.due("fits() of a new object", true, x.fits());
    Check.enters(x, 1, "a(0,0)", "b(3,3)", "+t(0,0)");
    for (int pair = 0; pair < 16; pair++) {
      Check.due("given without clauses", 0, x.given(pair / 4, pair % 4));
    }
    Check.due("rounds() without clauses", 0, x.rounds());
    Check.due("fits() without clauses", false, x.fits());
  }

  /** Promise 1: "the line empty". */
  private static void newObjectHasAnEmptyLine() {
    Check.due("back() of a new object", false, new Counted().back());
    Check.due("enter() of a new object", -1, new Counted().enter());
    Counted x = new Counted();
    Check.type(x, "x".repeat(32));
    Check.due("key 33 of a new object", false, x.key('x'));
  }

  /** Promise 1: "No facts, nothing marked, ...", though another object has them. */
  private static void newObjectsShareNothing() {
    Counted used = Check.with("a(0,1)", "b(0,1)", "+t(0,1)", "-t(1,0)", "t(X,Y):-a(X,Y)");
    Check.type(used, "a(");
    Counted fresh = new Counted();
    Check.due("state of a new object", "", Check.state(fresh));
    Check.due("back() of a new object", false, fresh.back());
    Check.enters(fresh, 10, "t(X,Y):-b(X,Y)");
    Check.due("text of the used object", "t(X,Y):-a(X,Y)", Check.text(used));
    Check.due("line of the used object", true, used.back());
  }

  /** Promise 2: "The character is added at the end of the line: true." */
  private static void keyIsAddedAtTheEnd() {
    Counted x = new Counted();
    for (char c : "b(2,1)".toCharArray()) {
      Check.due("key " + c, true, x.key(c));
    }
    Check.due("enter of b(2,1)", 1, x.enter());
    Check.due("holds(1, 2, 1)", true, x.holds(1, 2, 1));
    Check.due("holds(1, 1, 2)", false, x.holds(1, 1, 2));
  }

  /** Promise 2: "when it is not 32 .. 126": both ends are taken. */
  private static void keyTakesTheFirstAndTheLastCharacter() {
    Counted x = new Counted();
    Check.due("key 32", true, x.key((char) 32));
    Check.due("enter of a blank", -1, x.enter());
    Check.due("key 126", true, x.key((char) 126));
    Check.due("enter of ~", -2, x.enter());
    Check.due("key 126", true, x.key((char) 126));
    Check.due("back after 126", true, x.back());
    Check.due("back once more", false, x.back());
  }

  /** Promise 2: "False, changing nothing, when it is not 32 .. 126": all characters there are. */
  private static void keyRefusesOtherCharacters() {
    Counted x = new Counted();
    for (int c = 0; c <= 65535; c++) {
      if (x.callsLeft() < 2) {
        x = new Counted();
      }
      boolean taken = c >= 32 && c <= 126;
      Check.due("key " + c, taken, x.key((char) c));
      Check.due("back after key " + c, taken, x.back());
    }
  }

  /** Promise 2: "False ... when ... the line has 32 already", and not before. */
  private static void keyRefusesTheThirtyThird() {
    Counted x = new Counted();
    for (int length = 0; length < 32; length++) {
      Check.due("key on a line of " + length, true, x.key('a'));
    }
    for (int c = 0; c < 200; c++) {
      Check.due("key " + c + " on a line of 32", false, x.key((char) c));
    }
    Check.due("back from 32", true, x.back());
    Check.due("character 31 on a line of 31", false, x.key((char) 31));
    Check.due("key on a line of 31", true, x.key('~'));
    Check.due("key on a line of 32 again", false, x.key('~'));
    Check.due("enter of a full line", -2, x.enter());
    Check.due("key after enter", true, x.key('a'));
  }

  /** Promise 2: "False, changing nothing": what stood in the line is what is read. */
  private static void keyRefusedChangesNothing() {
    char[] refused = {0, 1, 10, 31, 127, 128, 255, 256, 256 + '~', 512 + ')', '\uFF09', '\uFFFF'};
    Counted x = new Counted();
    Check.type(x, "a(3,2");
    for (char c : refused) {
      Check.due("key " + (int) c, false, x.key(c));
    }
    Check.enters(x, 1, ")");
    Check.due("state after refused characters", "a(3,2) ", Check.state(x));

    Counted full = new Counted();
    Check.type(full, "b(1,0)" + ")".repeat(26));
    Check.due("key on a full line", false, full.key('+'));
    for (int length = 32; length > 6; length--) {
      Check.due("back from " + length, true, full.back());
    }
    Check.due("enter of what was first", 1, full.enter());
    Check.due("state after a full line", "b(1,0) ", Check.state(full));
  }

  /** Promise 3: "The last character of the line goes: true." */
  private static void backTakesTheLastCharacter() {
    Counted x = new Counted();
    Check.type(x, "a(0,12");
    Check.due("back", true, x.back());
    Check.enters(x, 1, ")");
    Check.due("state after back", "a(0,1) ", Check.state(x));
    Check.type(x, "x");
    Check.due("back from one", true, x.back());
    Check.enters(x, 1, "a(0,2)");
  }

  /** Promise 3: "The last character of the line goes", from a full line to an empty one. */
  private static void backEmptiesAFullLine() {
    Counted x = new Counted();
    Check.type(x, "-".repeat(32));
    for (int length = 32; length > 0; length--) {
      Check.due("back from " + length, true, x.back());
    }
    Check.due("back from 0", false, x.back());
    Check.type(x, "+".repeat(32));
    Check.due("key on a line of 32", false, x.key('+'));
  }

  /** Promise 3: "False when the line is empty.": new, emptied by back, emptied by enter. */
  private static void backRefusesAnEmptyLine() {
    Counted x = new Counted();
    Check.due("back of a new object", false, x.back());
    Check.due("back once more", false, x.back());
    Check.enters(x, 1, "a(0,0)");
    Check.due("back after enter", false, x.back());
    Check.type(x, "ab");
    Check.due("back from two", true, x.back());
    Check.due("back from one", true, x.back());
    Check.due("back from none", false, x.back());
    Check.due("enter after it", -1, x.enter());
    Check.enters(x, 1, "b(0,0)");
    Check.due("the state", "a(0,0) b(0,0) ", Check.state(x));
  }

  /** Promise 4: "The line is read, and is empty afterwards in any case.": each kind of answer. */
  private static void enterEmptiesTheLine() {
    Counted x = new Counted();
    emptiesTheLine(x, -1, "");
    emptiesTheLine(x, -1, "?");
    emptiesTheLine(x, -2, "a");
    emptiesTheLine(x, -2, "a".repeat(32));
    emptiesTheLine(x, -7, "a(0,1))");
    emptiesTheLine(x, 1, "a(0,1)");
    emptiesTheLine(x, 0, "a(0,1)");
    emptiesTheLine(x, 1, "+t(0,1)");
    emptiesTheLine(x, 0, "+t(0,1)");
    emptiesTheLine(x, -100, "t(X,Y):-a(X,Y),a(X,Y)");
    emptiesTheLine(x, -101, "t(X,Y):-a(X,X)");
    emptiesTheLine(x, 10, "t(X,Y):-a(X,Y)");
    emptiesTheLine(x, -102, "t(X,Y):-a(X,Y)");
    emptiesTheLine(x, 11, "t(X,Y):-b(X,Y)");
    emptiesTheLine(x, -103, "t(X,Y):-b(Y,X)");
  }

  private static void emptiesTheLine(Counted x, int want, String line) {
    Check.enters(x, want, line);
    Check.due("back after enter of " + line, false, x.back());
    Check.due("enter after enter of " + line, -1, x.enter());
  }

  /** Promise 4: "-1 - p, p being the least number for which the first p + 1 characters ...". */
  private static void enterTellsThePlace() {
    follow("", "abt~+-");
    for (String start : new String[] {"a", "b", "~a", "~b", "~t", "+t", "-t"}) {
      follow(start, "(");
      follow(start + "(", "0123");
      follow(start + "(3", ",");
      follow(start + "(3,", "0123");
      follow(start + "(3,0", ")");
      follow(start + "(3,0)", "");
    }
    follow("~", "abt");
    follow("+", "t");
    follow("-", "t");
    String head = "t(X,Y):-";
    String headAllowed = "(X,Y):-";
    for (int p = 1; p < head.length(); p++) {
      follow(head.substring(0, p), headAllowed.substring(p - 1, p));
    }
    String[] begun = {head, head + "a(X,Z),", head + "b(Z,X),t(Y,Y),"};
    for (int literal = 0; literal < 3; literal++) {
      follow(begun[literal], "abt");
      for (String relation : new String[] {"a", "b", "t"}) {
        follow(begun[literal] + relation, "(");
        follow(begun[literal] + relation + "(", "XYZ");
        follow(begun[literal] + relation + "(Z", ",");
        follow(begun[literal] + relation + "(Z,", "XYZ");
        follow(begun[literal] + relation + "(Z,Z", ")");
        follow(begun[literal] + relation + "(Z,Z)", literal < 2 ? "," : "");
      }
    }
  }

  /** Behind this beginning of a statement the allowed characters go on with one, and no others. */
  private static void follow(String start, String allowed) {
    for (char c = 32; c <= 126; c++) {
      String line = start + c;
      int length = line.length();
      if (allowed.indexOf(c) < 0) {
        Check.newEnters(-length, line);
        Check.newEnters(-length, line + (length < 32 ? ")" : ""));
      } else if (c != ')' || line.equals("t(X,Y)")) {
        Check.newEnters(-1 - length, line);
      } else {
        int answer = Check.enter(new Counted(), line);
        Check.due(line + " is a statement", true, answer >= 0 || answer <= -100);
      }
    }
  }

  /** Promise 4: "the least number for which": only the first wrong character counts. */
  private static void enterTellsTheLeastPlace() {
    Check.newEnters(-1, "?(9;9]", "(0,1)", "A(0,1)", "T(X,Y):-a(X,Y)");
    Check.newEnters(-3, "a(9;9]", "a(9,1)", "t(x,y):-", "t(0,1)");
    Check.newEnters(-5, "a(1,9]", "t(X,X):-a(X,X)");
    Check.newEnters(-11, "t(X,Y):-a(0,1),b(0,1)", "t(X,Y):-a(x,Y),c(X,Y)");
    Check.newEnters(-16, "t(X,Y):-a(X,Y),c(X,Y),d(X,Y)");
    Check.newEnters(-23, "t(X,Y):-a(X,Y),b(X,Y),+t(X,Y)");
  }

  /** Promise 4: "or the length of the line if there is none": every beginning of a statement. */
  private static void enterTellsTheLength() {
    String[] statements = {"a(0,1)", "b(2,3)", "~a(0,1)", "~b(0,1)", "+t(0,1)", "-t(0,1)",
        "~t(0,1)", LONGEST_STATEMENT};
    for (String statement : statements) {
      for (int length = 0; length < statement.length(); length++) {
        boolean whole = statement.startsWith("t(X,Y):-") && (length == 14 || length == 21);
        if (!whole) {
          Check.newEnters(-1 - length, statement.substring(0, length));
        }
      }
    }
    Check.newEnters(10, LONGEST_STATEMENT.substring(0, 14), LONGEST_STATEMENT.substring(0, 21));
  }

  /** Promise 4: "or the length of the line if there is none": of an empty line it is 0. */
  private static void enterRefusesAnEmptyLine() {
    Counted x = new Counted();
    Check.due("enter of a new line", -1, x.enter());
    Check.due("enter once more", -1, x.enter());
    Check.type(x, "a");
    x.back();
    Check.due("enter of an emptied line", -1, x.enter());
    Check.due("the state", "", Check.state(x));
  }

  /** Promise 4: "When it is no statement": one that goes on behind its end does nothing. */
  private static void enterRefusesWhatStandsBehindAStatement() {
    String[] statements = {"a(0,1)", "b(2,3)", "+t(0,1)", "-t(0,1)", LONGEST_STATEMENT};
    for (String statement : statements) {
      for (String more : new String[] {" ", ";", ".", ")", ",", "a"}) {
        Counted x = new Counted();
        Check.enters(x, -1 - statement.length(), statement + more);
        Check.due("state after " + statement + more, "", Check.state(x));
      }
    }
    Check.newEnters(-7, "a(0,1)a(0,1)", "a(0,1);a(0,1)", "a(0,1)" + " ".repeat(26));
    Check.newEnters(-15, "t(X,Y):-a(X,Y);t(X,Y):-b(X,Y)");
  }

  /** Promise 4: "When it is no statement": a line of 32 is longer than any. */
  private static void enterRefusesAFullLine() {
    Check.newEnters(-29, LONGEST_STATEMENT + ",a(X", LONGEST_STATEMENT + "    ");
    Check.newEnters(-2, "a".repeat(32), "t".repeat(32), "~".repeat(32), "+".repeat(32));
    Check.newEnters(-1, " ".repeat(32), ")".repeat(32));
  }

  /** Promise 4: "for facts ...: 1 when that changed something, 0 when all was so before". */
  private static void enterTellsChangesOfFacts() {
    for (String relation : new String[] {"a", "b"}) {
      Counted x = new Counted();
      Check.entersAllPairs(x, 1, relation);
      Check.entersAllPairs(x, 0, relation);
      Check.entersAllPairs(x, 1, "~" + relation);
      Check.entersAllPairs(x, 0, "~" + relation);
    }
    Counted other = Check.with("a(1,2)");
    Check.enters(other, 0, "~b(1,2)", "~a(2,1)");
    Check.enters(other, 1, "b(1,2)", "a(2,1)");
  }

  /** Promise 4: "for ... marks: 1 when that changed something, 0 when all was so before". */
  private static void enterTellsChangesOfMarks() {
    String[] statements = {"~t(3,1)", "+t(3,1)", "-t(3,1)"};
    int[] marks = {0, 1, -1};
    for (int before = 0; before < 3; before++) {
      for (int after = 0; after < 3; after++) {
        Counted x = before == 0 ? new Counted() : Check.with(statements[before]);
        Check.enters(x, before == after ? 0 : 1, statements[after]);
        Check.due("mark, " + before + " then " + after, marks[after], x.mark(3, 1));
        Check.due("mark beside it", 0, x.mark(1, 3));
      }
    }
  }

  /** Promise 4: "-100, a literal stands twice in it". */
  private static void enterRefusesALiteralTwice() {
    Check.newEnters(-100, "t(X,Y):-a(X,Y),a(X,Y)", "t(X,Y):-a(X,Y),a(X,Y),b(X,Y)",
        "t(X,Y):-a(X,Y),b(X,Y),a(X,Y)", "t(X,Y):-b(X,Y),a(X,Y),a(X,Y)",
        "t(X,Y):-t(X,Y),t(X,Y),t(X,Y)");
    // Turned round, or of another relation, it is another literal.
    Check.newEnters(10, "t(X,Y):-a(X,Y),a(Y,X)", "t(X,Y):-a(X,Y),b(X,Y),t(X,Y)");
  }

  /** Promise 4: "-101, X or Y does not occur in its body". */
  private static void enterRefusesAMissingHeadVariable() {
    Check.newEnters(-101, "t(X,Y):-a(X,X)", "t(X,Y):-a(X,Z)", "t(X,Y):-b(Z,X),t(X,X),a(Z,Z)");
    Check.newEnters(-101, "t(X,Y):-a(Y,Y)", "t(X,Y):-a(Z,Y)", "t(X,Y):-b(Z,Y),t(Y,Y),a(Z,Z)");
    Check.newEnters(-101, "t(X,Y):-a(Z,Z)", "t(X,Y):-a(Z,Z),b(Z,Z),t(Z,Z)");
    Check.newEnters(10, "t(X,Y):-a(X,X),a(Y,Y)", "t(X,Y):-a(X,Z),a(Z,Z),a(Z,Y)", "t(X,Y):-t(Y,X)");
  }

  /** Promise 4: "-102, the program has this clause", as clause 0 or as clause 1. */
  private static void enterRefusesAClauseThatIsThere() {
    Counted x = Check.with("t(X,Y):-a(X,Z),b(Z,Y)");
    Check.enters(x, -102, "t(X,Y):-a(X,Z),b(Z,Y)", "t(X,Y):-b(Z,Y),a(X,Z)");
    Check.enters(x, 11, "t(X,Y):-t(Z,Y),a(X,Z),b(Z,Y)");
    Check.enters(x, -102, "t(X,Y):-b(Z,Y),a(X,Z)", "t(X,Y):-a(X,Z),b(Z,Y),t(Z,Y)");
    // One that went is there no more.
    Check.due("drop(0)", true, x.drop(0));
    Check.enters(x, -102, "t(X,Y):-b(Z,Y),t(Z,Y),a(X,Z)");
    Check.enters(x, 11, "t(X,Y):-a(X,Z),b(Z,Y)");
  }

  /** Promise 4: "-103, the program has two clauses". */
  private static void enterRefusesAThirdClause() {
    Counted x = Check.with("t(X,Y):-a(X,Y)", "t(X,Y):-b(X,Y)");
    Check.enters(x, -103, "t(X,Y):-t(X,Y)", "t(X,Y):-a(X,Y),b(X,Y)", LONGEST_STATEMENT);
    Check.due("drop(1)", true, x.drop(1));
    Check.enters(x, 11, "t(X,Y):-t(X,Y)");
    Check.enters(x, -103, "t(X,Y):-b(X,Y)");
  }

  /** Promise 4: "For a clause the first of these that holds": two or three of them hold here. */
  private static void enterTakesTheFirstReason() {
    Counted one = Check.with("t(X,Y):-a(X,Y)");
    Check.enters(one, -100, "t(X,Y):-b(X,X),b(X,X)", "t(X,Y):-a(X,Y),a(X,Y)");
    Counted two = Check.with("t(X,Y):-a(X,Y)", "t(X,Y):-b(X,Y)");
    Check.enters(two, -100, "t(X,Y):-a(X,X),a(X,X)", "t(X,Y):-a(X,Y),a(X,Y)",
        "t(X,Y):-t(X,Y),t(X,Y)");
    Check.enters(two, -101, "t(X,Y):-a(X,X)", "t(X,Y):-a(Y,Z),b(Y,Y),t(Z,Z)");
    Check.enters(two, -102, "t(X,Y):-a(X,Y)", "t(X,Y):-b(X,Y)");
    Check.enters(two, -103, "t(X,Y):-t(X,Y)");
  }

  /** Promise 4: "it becomes the next clause ..., and the answer is 10 plus its number." */
  private static void enterNumbersTheNextClause() {
    Counted x = new Counted();
    Check.enters(x, 10, "t(X,Y):-b(X,Y)");
    Check.enters(x, 11, "t(X,Y):-a(X,Y)");
    Check.due("literal(0, 0)", 10, x.literal(0, 0));
    Check.due("literal(1, 0)", 1, x.literal(1, 0));
    Check.due("drop(0)", true, x.drop(0));
    Check.enters(x, 11, "t(X,Y):-b(X,Y)");
    Check.due("literal(1, 0), typed later", 10, x.literal(1, 0));
    Check.due("drop(1)", true, x.drop(1));
    Check.due("drop(0)", true, x.drop(0));
    Check.enters(x, 10, "t(X,Y):-t(Y,X)");
    Check.due("learn()", 1, x.learn());
    Check.enters(x, 11, "t(X,Y):-t(Y,X)");
  }

  /** Promise 4: "(A call with a negative answer changes nothing but the line.)" */
  private static void enterNegativeChangesNothing() {
    negativeChangesNothing(-1, "c(0,1)");
    negativeChangesNothing(-2, "~");
    negativeChangesNothing(-6, "a(0,1");
    negativeChangesNothing(-7, "~a(1,1");
    negativeChangesNothing(-7, "a(0,1)~");
    negativeChangesNothing(-8, "~a(1,1)~");
    negativeChangesNothing(-8, "-t(2,2)-");
    negativeChangesNothing(-14, "t(X,Y):-t(X,Y");
    negativeChangesNothing(-15, "t(X,Y):-t(X,Y);");
    negativeChangesNothing(-100, "t(X,Y):-t(X,Y),t(X,Y)");
    negativeChangesNothing(-101, "t(X,Y):-t(X,X)");
    negativeChangesNothing(-102, "t(X,Y):-b(X,Y)");
  }

  private static void negativeChangesNothing(int want, String line) {
    Counted x = Check.with("a(1,1)", "b(0,1)", "+t(2,2)", "-t(3,3)", "t(X,Y):-b(X,Y)");
    String before = "b(0,1) a(1,1) +t(2,2) -t(3,3) t(X,Y):-b(X,Y)";
    Check.due("state before " + line, before, Check.state(x));
    Check.enters(x, want, line);
    Check.due("state after " + line, before, Check.state(x));
    Check.enters(x, 11, "t(X,Y):-a(X,X),a(Y,Y)");
    Check.enters(x, want, line);
    Check.enters(x, -103, "t(X,Y):-a(Y,X)");
    Check.due("state of the full program", before + ";t(X,Y):-a(X,X),a(Y,Y)", Check.state(x));
  }
}

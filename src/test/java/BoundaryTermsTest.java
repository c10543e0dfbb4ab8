/**
 * The boundary cases in "What it is" and "Terms". Each test names the sentence that it would fail
 * for; what belongs to rounds, fitting and learning stands in BoundaryLearnTest, THE LINE in
 * BoundaryLineTest.
 */
public final class BoundaryTermsTest {
  public static void main(String[] args) {
    lastOfAllCallsIsAnswered();
    lastOfAllCallsLearns();
    lastOfAllCallsEnters();
    constantsHaveAnEnd();
    allFactsAtOnce();
    noFactsOfT();
    allPairsMarked();
    noPairMarkedTwice();
    nothingAtFirst();
    codesFromFirstToLast();
    bodyOfNoLiteral();
    bodyOfOneLiteral();
    bodyOfThreeLiterals();
    bodyOfFourLiterals();
    literalsDiffer();
    bodyNeedsBothHeadVariables();
    bodyIsWrittenInOrder();
    programOfTwoClausesIsFull();
    clausesDiffer();
    Check.end();
  }

  /** What it is: "An object is used for at most 512 calls after it has been made". */
  private static void lastOfAllCallsIsAnswered() {
    Counted x = Check.with("a(3,3)", "t(X,Y):-a(X,Y)");
    while (x.callsLeft() > 1) {
      Check.due("facts(0)", 1, x.facts(0));
    }
    Check.due("call 512, given(3, 3)", 1, x.given(3, 3));
  }

  /** What it is: "An object is used for at most 512 calls after it has been made"; the dearest. */
  private static void lastOfAllCallsLearns() {
    Counted x = Check.with("+t(2,2)", "-t(3,3)");
    while (x.callsLeft() > 0) {
      Check.due("learn(), of which none fits", 0, x.learn());
    }
  }

  /** What it is: "An object is used for at most 512 calls after it has been made"; all typed. */
  private static void lastOfAllCallsEnters() {
    Counted x = new Counted();
    for (int line = 0; line < 34; line++) {
      Check.enters(x, 1, "a(1,2)", "~a(1,2)");
    }
    Check.due("calls that are left", 2, x.callsLeft());
    Check.due("call 511, key", true, x.key('t'));
    Check.due("call 512, enter", -2, x.enter());
  }

  /** Terms: "CONSTANTS are 0 .. 3." No other character stands for one, in either place. */
  private static void constantsHaveAnEnd() {
    for (char c = 32; c <= 126; c++) {
      boolean constant = c >= '0' && c <= '3';
      for (String start : new String[] {"a", "b"}) {
        Check.newEnters(constant ? 1 : -3, start + "(" + c + ",0)");
        Check.newEnters(constant ? 1 : -5, start + "(0," + c + ")");
      }
      for (String start : new String[] {"+t", "-t"}) {
        Check.newEnters(constant ? 1 : -4, start + "(" + c + ",0)");
        Check.newEnters(constant ? 1 : -6, start + "(0," + c + ")");
      }
      for (String start : new String[] {"~a", "~b", "~t"}) {
        Check.newEnters(constant ? 0 : -4, start + "(" + c + ",0)");
        Check.newEnters(constant ? 0 : -6, start + "(0," + c + ")");
      }
    }
  }

  /** Terms: "There are relations a and b, of which FACTS like a(0,2) are there or not, and t." */
  private static void allFactsAtOnce() {
    Counted x = new Counted();
    Check.entersAllPairs(x, 1, "a");
    Check.due("facts(0), a full", 16, x.facts(0));
    Check.due("facts(1), a full", 0, x.facts(1));
    Check.entersAllPairs(x, 1, "b");
    Check.due("facts(0), both full", 16, x.facts(0));
    Check.due("facts(1), both full", 16, x.facts(1));
    Check.entersAllPairs(x, 1, "~a");
    Check.due("facts(0), b full", 0, x.facts(0));
    Check.due("facts(1), b full", 16, x.facts(1));
  }

  /** Terms: "relations a and b, of which FACTS ... are there or not, and t": t has no facts. */
  private static void noFactsOfT() {
    Check.newEnters(-3, "t(0,2)");
    Counted x = new Counted();
    Check.entersAllPairs(x, 1, "+t");
    Check.enters(x, 10, "t(X,Y):-t(X,Y)");
    Check.due("facts(0) after marks", 0, x.facts(0));
    Check.due("facts(1) after marks", 0, x.facts(1));
    Check.due("facts(2) after marks", -1, x.facts(2));
    Check.due("holds(2, 0, 2) after marks", false, x.holds(2, 0, 2));
    Check.due("rounds() of t(X,Y):-t(X,Y)", 0, x.rounds());
  }

  /** Terms: "A pair of constants may be an EXAMPLE of t: MARKED +, or marked -, or not marked." */
  private static void allPairsMarked() {
    Counted x = new Counted();
    Check.entersAllPairs(x, 1, "+t");
    marksAre(x, 1);
    Check.entersAllPairs(x, 1, "-t");
    marksAre(x, -1);
    Check.entersAllPairs(x, 1, "~t");
    marksAre(x, 0);
  }

  private static void marksAre(Counted x, int want) {
    for (int pair = 0; pair < 16; pair++) {
      Check.due("mark" + Check.pair(pair), want, x.mark(pair / 4, pair % 4));
    }
  }

  /** Terms: "MARKED +, or marked -, or not marked": one of the three, so one ~ is enough. */
  private static void noPairMarkedTwice() {
    Counted x = Check.with("+t(3,0)", "-t(3,0)", "~t(3,0)");
    Check.due("mark(3, 0) after +, -, ~", 0, x.mark(3, 0));
    Check.enters(x, 0, "~t(3,0)");
    Counted y = Check.with("-t(0,3)", "+t(0,3)", "~t(0,3)");
    Check.due("mark(0, 3) after -, +, ~", 0, y.mark(0, 3));
    Check.enters(y, 0, "~t(0,3)");
  }

  /** Terms: "At first there are no facts, and no pair is marked." */
  private static void nothingAtFirst() {
    Counted x = new Counted();
    marksAre(x, 0);
    Check.due("facts(0) at first", 0, x.facts(0));
    Check.due("facts(1) at first", 0, x.facts(1));
    Counted gone = new Counted();
    Check.entersAllPairs(gone, 0, "~a");
    Check.entersAllPairs(gone, 0, "~b");
    Check.entersAllPairs(gone, 0, "~t");
  }

  /** Terms: "its CODE is 9 times 0 for a, 1 for b, 2 for t, plus ...": from 0 to 26. */
  private static void codesFromFirstToLast() {
    int code = 0;
    for (char relation : "abt".toCharArray()) {
      for (char first : "XYZ".toCharArray()) {
        for (char second : "XYZ".toCharArray()) {
          String literal = relation + "(" + first + "," + second + ")";
          // Another literal brings in X and Y: one of greater code, or one of less.
          boolean less = relation == 't';
          Counted x = Check.with("t(X,Y):-" + literal + (less ? ",a(X,Y)" : ",t(X,Y)"));
          Check.due("code of " + literal, code, x.literal(0, less ? 1 : 0));
          code++;
        }
      }
    }
    Check.due("number of codes", 27, code);
  }

  /** Terms: "a BODY of one to three different literals": none is too few. */
  private static void bodyOfNoLiteral() {
    Check.newEnters(-9, "t(X,Y):-");
    Check.newEnters(-8, "t(X,Y):");
    Check.newEnters(-7, "t(X,Y)");
  }

  /** Terms: "a BODY of one to three different literals": one is enough. */
  private static void bodyOfOneLiteral() {
    String[] literals = {"a(X,Y)", "a(Y,X)", "b(X,Y)", "b(Y,X)", "t(X,Y)", "t(Y,X)"};
    for (String literal : literals) {
      Counted x = Check.with("t(X,Y):-" + literal);
      Check.due("literals(0) of " + literal, 1, x.literals(0));
    }
  }

  /** Terms: "a BODY of one to three different literals": three are not too many. */
  private static void bodyOfThreeLiterals() {
    Counted x = Check.with("t(X,Y):-a(X,X),a(X,Y),a(X,Z)", "t(X,Y):-t(Z,X),t(Z,Y),t(Z,Z)");
    Check.due("literals(0)", 3, x.literals(0));
    Check.due("literals(1)", 3, x.literals(1));
  }

  /** Terms: "a BODY of one to three different literals": a fourth is refused at its comma. */
  private static void bodyOfFourLiterals() {
    String three = "t(X,Y):-a(X,Y),b(X,Y),t(X,Y)";
    for (String more : new String[] {",", ",a", ",a(", ",b(X"}) {
      Counted x = new Counted();
      Check.enters(x, -29, three + more);
      Check.due("clauses() after " + three + more, 0, x.clauses());
    }
  }

  /** Terms: "one to three different literals": the same one may stand at no two places. */
  private static void literalsDiffer() {
    for (int code = 0; code < 27; code++) {
      String twice = Model.written(code);
      String other = Model.written(code == 1 ? 3 : 1);
      Check.newEnters(-100, "t(X,Y):-" + twice + "," + twice,
          "t(X,Y):-" + twice + "," + twice + "," + other,
          "t(X,Y):-" + twice + "," + other + "," + twice,
          "t(X,Y):-" + other + "," + twice + "," + twice,
          "t(X,Y):-" + twice + "," + twice + "," + twice);
    }
  }

  /** Terms: "a BODY of one to three different literals, in which X and Y both occur". */
  private static void bodyNeedsBothHeadVariables() {
    for (int i = 0; i < 27; i++) {
      headVariablesDecide(Model.written(i));
      for (int j = 0; j < 27; j++) {
        if (i != j) {
          headVariablesDecide(Model.written(i) + "," + Model.written(j));
        }
      }
    }
    headVariablesDecide("a(X,X),b(X,Z),t(Z,X)");
    headVariablesDecide("a(Y,Y),b(Y,Z),t(Z,Y)");
    headVariablesDecide("a(Z,Z),b(Z,Z),t(Z,Z)");
    headVariablesDecide("a(Z,Z),b(Z,Z),t(Y,X)");
    headVariablesDecide("a(X,Z),b(Z,Z),t(Z,Y)");
  }

  private static void headVariablesDecide(String body) {
    boolean both = body.indexOf('X') >= 0 && body.indexOf('Y') >= 0;
    Check.newEnters(both ? 10 : -101, "t(X,Y):-" + body);
  }

  /** Terms: "by their codes, the least first, whatever their order when it was typed." */
  private static void bodyIsWrittenInOrder() {
    String[] literals = {"a(X,X)", "b(Y,Z)", "t(Z,Z)"};
    int[] codes = {0, 14, 26};
    for (int order = 0; order < 27; order++) {
      int i = order / 9;
      int j = order / 3 % 3;
      int k = order % 3;
      if (i != j && j != k && i != k) {
        Counted x = Check.with("t(X,Y):-" + literals[i] + "," + literals[j] + "," + literals[k]);
        for (int place = 0; place < 3; place++) {
          String call = "literal(0, " + place + ") of order " + order;
          Check.due(call, codes[place], x.literal(0, place));
        }
        Check.due("text of order " + order, "t(X,Y):-a(X,X),b(Y,Z),t(Z,Z)", Check.text(x));
      }
    }
  }

  /** Terms: "The PROGRAM has at most two clauses, numbered 0 and 1". */
  private static void programOfTwoClausesIsFull() {
    Counted x = Check.with("t(X,Y):-b(X,Y)", "t(X,Y):-a(X,Y)");
    Check.due("literal(0, 0)", 10, x.literal(0, 0));
    Check.due("literal(1, 0)", 1, x.literal(1, 0));
    Check.enters(x, -103, "t(X,Y):-t(X,Y)");
    Check.due("clauses()", 2, x.clauses());
    Check.due("literals(2)", -1, x.literals(2));
    Check.due("the text", "t(X,Y):-b(X,Y);t(X,Y):-a(X,Y)", Check.text(x));
  }

  /** Terms: "at most two clauses ..., which are different", in whatever order they are typed. */
  private static void clausesDiffer() {
    Counted x = Check.with("t(X,Y):-b(X,Y),a(X,X)");
    Check.enters(x, -102, "t(X,Y):-b(X,Y),a(X,X)", "t(X,Y):-a(X,X),b(X,Y)");
    Check.due("clauses()", 1, x.clauses());
    Check.enters(x, 11, "t(X,Y):-b(X,Y)");
    // The literals differ, though what the clauses give is the same.
    Counted renamed = Check.with("t(X,Y):-a(X,Y),b(X,Z)");
    Check.enters(renamed, 11, "t(X,Y):-a(X,Y),b(X,Z),a(X,Z)");
  }
}

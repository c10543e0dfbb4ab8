/**
 * The boundary cases in the promises 5 to 13: what is asked about facts, marks and the clauses of
 * the program, and drop. Each test names the sentence that it would fail for.
 */
public final class BoundaryProgramTest {
  // The nearest numbers outside 0 .. 3, and those that wrap round to 0 .. 3 when they are shifted,
  // multiplied by 4 or cut to a byte.
  private static final int[] NO_CONSTANTS = {
    -1, 4, -2, 5, -4, 16, 32, 64, -32, 256, 65536, 1 << 29, 1 << 30, 3 << 30,
    Integer.MIN_VALUE, Integer.MIN_VALUE + 1, Integer.MAX_VALUE - 1, Integer.MAX_VALUE
  };
  private static final int[] NO_NUMBERS = {
    -1, 2, -2, 3, 4, 16, 32, -32, 256, 65536, 1 << 30, 3 << 30,
    Integer.MIN_VALUE, Integer.MIN_VALUE + 1, Integer.MAX_VALUE - 1, Integer.MAX_VALUE
  };
  private static final String LONGEST_0 = "t(X,Y):-a(X,X),b(Y,Z),t(Z,Z)";
  private static final String LONGEST_1 = "t(X,Y):-a(X,Y),a(X,Z),a(Y,X)";

  public static void main(String[] args) {
    factsFromNoneToSixteen();
    factsOfAnotherRelation();
    holdsOfEachFactAlone();
    holdsOfNoConstant();
    holdsOfAnotherRelation();
    markOfEachPairAlone();
    markOtherwise();
    dropMovesTheClauseBehind();
    dropOfTheLast();
    dropOfNoClause();
    clausesFromNoneToTwo();
    literalsFromOneToThree();
    literalsOfNoClause();
    literalFromFirstToLast();
    literalOfNoClause();
    literalThatIsNotThere();
    letterOfNoClause();
    letterOfOneClause();
    letterOfTheLongestText();
    letterOfTheShortestText();
    letterAfterDrop();
    textCanBeTyped();
    subsumesWithEachVariableForZ();
    subsumesLiteralByLiteral();
    subsumesWithOneVariableAtATime();
    subsumesWithXAndYStaying();
    subsumesEveryLiteral();
    subsumesItself();
    subsumesOfNoClause();
    Check.end();
  }

  private static Counted withAllFacts() {
    Counted x = new Counted();
    Check.entersAllPairs(x, 1, "a");
    Check.entersAllPairs(x, 1, "b");
    return x;
  }

  private static Counted withTwoClauses() {
    return Check.with(LONGEST_0, LONGEST_1);
  }

  /** Promise 5: "How many facts relation a (0) or b (1) has": none to sixteen, and back. */
  private static void factsFromNoneToSixteen() {
    for (int relation = 0; relation < 2; relation++) {
      String name = "ab".substring(relation, relation + 1);
      Counted x = new Counted();
      for (int pair = 0; pair < 16; pair++) {
        Check.due("facts of " + name, pair, x.facts(relation));
        Check.enters(x, 1, name + Check.pair(pair));
      }
      Check.enters(x, 0, name + "(0,0)");
      Check.due("facts of a full " + name, 16, x.facts(relation));
      Check.due("facts of the other", 0, x.facts(1 - relation));
      for (int pair = 0; pair < 16; pair++) {
        Check.enters(x, 1, "~" + name + Check.pair(pair));
        Check.due("facts of " + name, 15 - pair, x.facts(relation));
      }
      Check.enters(x, 0, "~" + name + "(0,0)");
      Check.due("facts of an emptied " + name, 0, x.facts(relation));
    }
  }

  /** Promise 5: "-1 for another relation.", t among them. */
  private static void factsOfAnotherRelation() {
    Counted x = withAllFacts();
    for (int relation : NO_NUMBERS) {
      Check.due("facts(" + relation + ")", -1, x.facts(relation));
      Check.due("facts(" + relation + ") of a new object", -1, new Counted().facts(relation));
    }
  }

  /** Promise 6: "Whether the fact ... with the constants x and y is there.": that one alone. */
  private static void holdsOfEachFactAlone() {
    for (int fact = 0; fact < 32; fact++) {
      Counted x = Check.with("ab".charAt(fact / 16) + Check.pair(fact % 16));
      for (int asked = 0; asked < 32; asked++) {
        Check.due("holds of fact " + asked + " when " + fact + " is there", asked == fact,
            x.holds(asked / 16, asked % 16 / 4, asked % 4));
      }
    }
  }

  /** Promise 6: "with the constants x and y": what is no constant has no fact. */
  private static void holdsOfNoConstant() {
    Counted x = withAllFacts();
    for (int wrong : NO_CONSTANTS) {
      Check.due("holds(0, 0, " + wrong + ")", false, x.holds(0, 0, wrong));
      Check.due("holds(0, " + wrong + ", 0)", false, x.holds(0, wrong, 0));
      Check.due("holds(1, 1, " + wrong + ")", false, x.holds(1, 1, wrong));
      Check.due("holds(1, " + wrong + ", 3)", false, x.holds(1, wrong, 3));
      Check.due("holds(0, " + wrong + ", " + wrong + ")", false, x.holds(0, wrong, wrong));
    }
    // 4 * x + y would be the number of a pair here.
    Check.due("holds(0, 1, -1)", false, x.holds(0, 1, -1));
    Check.due("holds(0, -1, 4)", false, x.holds(0, -1, 4));
    Check.due("holds(0, 0, 15)", false, x.holds(0, 0, 15));
    Check.due("holds(0, 4, -16)", false, x.holds(0, 4, -16));
  }

  /** Promise 6: "relation a (0) or b (1)": no other relation has facts. */
  private static void holdsOfAnotherRelation() {
    Counted x = withAllFacts();
    for (int wrong : NO_NUMBERS) {
      Check.due("holds(" + wrong + ", 0, 0)", false, x.holds(wrong, 0, 0));
      Check.due("holds(" + wrong + ", 3, 3)", false, x.holds(wrong, 3, 3));
    }
    Counted given = Check.with("a(0,1)", "+t(0,1)", "t(X,Y):-a(X,Y)");
    Check.due("given(0, 1)", 1, given.given(0, 1));
    Check.due("holds(2, 0, 1) of a given pair", false, given.holds(2, 0, 1));
  }

  /** Promise 7: "1 when the pair is marked +, -1 when it is marked -". */
  private static void markOfEachPairAlone() {
    for (int marked = 0; marked < 16; marked++) {
      Counted plus = Check.with("+t" + Check.pair(marked));
      Counted minus = Check.with("-t" + Check.pair(marked));
      for (int pair = 0; pair < 16; pair++) {
        int due = pair == marked ? 1 : 0;
        Check.due("mark" + Check.pair(pair), due, plus.mark(pair / 4, pair % 4));
        Check.due("mark" + Check.pair(pair), -due, minus.mark(pair / 4, pair % 4));
      }
    }
  }

  /** Promise 7: "otherwise 0.": not marked, marked no more, or no pair of constants. */
  private static void markOtherwise() {
    for (String sign : new String[] {"+t", "-t"}) {
      Counted x = new Counted();
      Check.entersAllPairs(x, 1, sign);
      for (int wrong : NO_CONSTANTS) {
        Check.due("mark(0, " + wrong + ")", 0, x.mark(0, wrong));
        Check.due("mark(1, " + wrong + ")", 0, x.mark(1, wrong));
        Check.due("mark(" + wrong + ", 0)", 0, x.mark(wrong, 0));
        Check.due("mark(" + wrong + ", " + wrong + ")", 0, x.mark(wrong, wrong));
      }
      Check.due("mark(-1, 4)", 0, x.mark(-1, 4));
      Check.due("mark(0, 15)", 0, x.mark(0, 15));
      Check.enters(x, 1, "~t(3,3)");
      Check.due("mark(3, 3), marked no more", 0, x.mark(3, 3));
    }
  }

  /** Promise 8: "Takes a clause out of the program, the one behind it gets its number: true." */
  private static void dropMovesTheClauseBehind() {
    Counted x = withTwoClauses();
    Check.due("drop(0) of two", true, x.drop(0));
    Check.due("the text", LONGEST_1, Check.text(x));
    Check.due("literals(0)", 3, x.literals(0));
    Check.due("literal(0, 0)", 1, x.literal(0, 0));
    Check.due("literals(1)", -1, x.literals(1));
    Check.due("drop(1), whose number is gone", false, x.drop(1));
  }

  /** Promise 8: "Takes a clause out of the program": the last one, and the only one. */
  private static void dropOfTheLast() {
    Counted x = withTwoClauses();
    Check.due("drop(1) of two", true, x.drop(1));
    Check.due("the text", LONGEST_0, Check.text(x));
    Check.due("drop(1) once more", false, x.drop(1));
    Check.due("drop(0) of one", true, x.drop(0));
    Check.due("the text", "", Check.text(x));
    Check.due("clauses()", 0, x.clauses());
    Check.due("drop(0) of none", false, x.drop(0));
  }

  /** Promise 8: "False when there is none.", and nothing is taken out. */
  private static void dropOfNoClause() {
    Counted none = new Counted();
    Counted one = Check.with(LONGEST_0);
    Counted two = withTwoClauses();
    for (int wrong : NO_NUMBERS) {
      Check.due("drop(" + wrong + ") of none", false, none.drop(wrong));
      Check.due("drop(" + wrong + ") of one", false, one.drop(wrong));
      Check.due("drop(" + wrong + ") of two", false, two.drop(wrong));
    }
    Check.due("drop(0) of none", false, none.drop(0));
    Check.due("drop(1) of none", false, none.drop(1));
    Check.due("drop(1) of one", false, one.drop(1));
    Check.due("clauses() of none", 0, none.clauses());
    Check.due("text of one", LONGEST_0, Check.text(one));
    Check.due("text of two", LONGEST_0 + ";" + LONGEST_1, Check.text(two));
  }

  /** Promise 9: "How many clauses the program has.": none, one, two and never three. */
  private static void clausesFromNoneToTwo() {
    Counted x = new Counted();
    Check.due("clauses() of none", 0, x.clauses());
    Check.enters(x, -101, "t(X,Y):-a(X,X)");
    Check.due("clauses() after a refused one", 0, x.clauses());
    Check.enters(x, 10, "t(X,Y):-a(X,Y)");
    Check.due("clauses() of one", 1, x.clauses());
    Check.enters(x, -102, "t(X,Y):-a(X,Y)");
    Check.due("clauses() after the same one", 1, x.clauses());
    Check.enters(x, 11, "t(X,Y):-b(X,Y)");
    Check.due("clauses() of two", 2, x.clauses());
    Check.enters(x, -103, "t(X,Y):-t(X,Y)");
    Check.due("clauses() after a third", 2, x.clauses());
    Check.due("drop(2)", false, x.drop(2));
    Check.due("clauses() after no drop", 2, x.clauses());
    Check.due("drop(1)", true, x.drop(1));
    Check.due("clauses() after a drop", 1, x.clauses());
    Check.due("drop(0)", true, x.drop(0));
    Check.due("clauses() after both", 0, x.clauses());
  }

  /** Promise 10: "How many literals a clause of the program has": one, two, three. */
  private static void literalsFromOneToThree() {
    Counted x = Check.with("t(X,Y):-t(Y,X)", LONGEST_0);
    Check.due("literals(0) of one", 1, x.literals(0));
    Check.due("literals(1) of three", 3, x.literals(1));
    x.drop(0);
    Check.enters(x, 11, "t(X,Y):-t(Z,Z),t(Y,X)");
    Check.due("literals(0), numbered anew", 3, x.literals(0));
    Check.due("literals(1) of two", 2, x.literals(1));
  }

  /** Promise 10: "-1 when there is none." */
  private static void literalsOfNoClause() {
    Counted two = withTwoClauses();
    for (int wrong : NO_NUMBERS) {
      Check.due("literals(" + wrong + ")", -1, two.literals(wrong));
    }
    Check.due("literals(0) of none", -1, new Counted().literals(0));
    Check.due("literals(1) of none", -1, new Counted().literals(1));
    Check.due("literals(1) of one", -1, Check.with(LONGEST_0).literals(1));
    two.drop(0);
    Check.due("literals(1) after drop(0)", -1, two.literals(1));
    two.drop(0);
    Check.due("literals(0) after both", -1, two.literals(0));
  }

  /** Promise 11: "The code of literal k (0 .. ) of a clause as it is written". */
  private static void literalFromFirstToLast() {
    Counted x = Check.with("t(X,Y):-t(Z,Z),a(X,X),b(Y,Z)", "t(X,Y):-b(Z,X),a(Z,Y)");
    int[] codes = {0, 14, 26};
    for (int k = 0; k < 3; k++) {
      Check.due("literal(0, " + k + ")", codes[k], x.literal(0, k));
    }
    Check.due("literal(1, 0)", 7, x.literal(1, 0));
    Check.due("literal(1, 1)", 15, x.literal(1, 1));
  }

  /** Promise 11: "-1 when there is no such clause": for every k. */
  private static void literalOfNoClause() {
    Counted two = withTwoClauses();
    Counted one = Check.with(LONGEST_0);
    for (int k = -1; k <= 3; k++) {
      for (int wrong : NO_NUMBERS) {
        Check.due("literal(" + wrong + ", " + k + ")", -1, two.literal(wrong, k));
      }
      Check.due("literal(1, " + k + ") of one", -1, one.literal(1, k));
      Check.due("literal(0, " + k + ") of none", -1, new Counted().literal(0, k));
    }
    two.drop(1);
    Check.due("literal(1, 0) after drop(1)", -1, two.literal(1, 0));
  }

  /** Promise 11: "-1 when there is no such ... literal.": k below 0, or as large as the body. */
  private static void literalThatIsNotThere() {
    Counted x = Check.with("t(X,Y):-a(X,Y)", "t(X,Y):-a(X,X),b(Y,Z)");
    Check.due("literal(0, 1) of one", -1, x.literal(0, 1));
    Check.due("literal(0, 2) of one", -1, x.literal(0, 2));
    Check.due("literal(1, 2) of two", -1, x.literal(1, 2));
    Counted three = withTwoClauses();
    int[] outside = {-1, 3, 4, 5, 27, 32, -32, 1 << 30, Integer.MIN_VALUE, Integer.MAX_VALUE};
    for (int k : outside) {
      Check.due("literal(0, " + k + ")", -1, x.literal(0, k));
      Check.due("literal(1, " + k + ")", -1, x.literal(1, k));
      Check.due("literal(0, " + k + ") of three", -1, three.literal(0, k));
      Check.due("literal(1, " + k + ") of three", -1, three.literal(1, k));
    }
  }

  /** Promise 12: "-1 when there is none.": the text of no clause has no character. */
  private static void letterOfNoClause() {
    spells(new Counted(), "");
  }

  /** Promise 12: "one ; between two": there is none when there is one clause. */
  private static void letterOfOneClause() {
    spells(Check.with("t(X,Y):-t(Y,X)"), "t(X,Y):-t(Y,X)");
    spells(Check.with("t(X,Y):-b(Z,Y),a(X,Z)"), "t(X,Y):-a(X,Z),b(Z,Y)");
    spells(Check.with("t(X,Y):-t(Z,Z),b(Y,Z),a(X,X)"), LONGEST_0);
  }

  /** Promise 12: "its clauses as they could be typed ... and one ; between two.": 57 characters. */
  private static void letterOfTheLongestText() {
    Counted x = withTwoClauses();
    spells(x, LONGEST_0 + ";" + LONGEST_1);
    Check.due("letter(28)", ';', x.letter(28));
    Check.due("letter(56), the last", ')', x.letter(56));
    Check.due("letter(57)", -1, x.letter(57));
  }

  /** Promise 12: "and one ; between two.": both of one literal, and of unlike length. */
  private static void letterOfTheShortestText() {
    spells(Check.with("t(X,Y):-b(Y,X)", "t(X,Y):-a(Y,X)"), "t(X,Y):-b(Y,X);t(X,Y):-a(Y,X)");
    spells(Check.with("t(X,Y):-t(X,Y)", LONGEST_1), "t(X,Y):-t(X,Y);" + LONGEST_1);
    spells(Check.with(LONGEST_1, "t(X,Y):-t(X,Y)"), LONGEST_1 + ";t(X,Y):-t(X,Y)");
  }

  /** Promise 12: "Character k of the program's text": of the program as it is now. */
  private static void letterAfterDrop() {
    Counted x = withTwoClauses();
    x.drop(0);
    spells(x, LONGEST_1);
    x.drop(0);
    spells(x, "");
  }

  private static void spells(Counted x, String text) {
    for (int k = 0; k < text.length(); k++) {
      Check.due("letter(" + k + ") of " + text, text.charAt(k), x.letter(k));
    }
    int end = text.length();
    int[] outside = {-1, -2, -7, -8, -28, -29, -57, end, end + 1, end + 7, end + 14, 57, 58, 1000,
        1 << 30, Integer.MIN_VALUE, Integer.MIN_VALUE + 28, Integer.MAX_VALUE - 28,
        Integer.MAX_VALUE};
    for (int k : outside) {
      Check.due("letter(" + k + ") of " + text, -1, x.letter(k));
    }
  }

  /** Promise 12: "as they could be typed": what is read is a clause when it is entered again. */
  private static void textCanBeTyped() {
    for (int code = 0; code < 27; code++) {
      String other = Model.written(code == 12 ? 10 : 12);
      Counted x = Check.with("t(X,Y):-" + Model.written(code) + "," + other);
      String text = Check.text(x);
      Check.enters(x, -102, text);
      Check.newEnters(10, text);
    }
  }

  private static void subsumption(String body, String other, boolean due) {
    Counted x = Check.with("t(X,Y):-" + body, "t(X,Y):-" + other);
    Check.due(body + " subsumes " + other, due, x.subsumes(0, 1));
    Counted turned = Check.with("t(X,Y):-" + other, "t(X,Y):-" + body);
    Check.due(body + " subsumes " + other + ", the numbers turned", due, turned.subsumes(1, 0));
  }

  /** Promise 13: "the substitution of some variable for Z": X, Y, or Z itself. */
  private static void subsumesWithEachVariableForZ() {
    subsumption("a(X,Z),b(Y,Z)", "a(X,X),b(Y,X)", true);
    subsumption("a(X,Z),b(Y,Z)", "a(X,Y),b(Y,Y)", true);
    subsumption("a(X,Z),b(Y,Z)", "a(X,Z),b(Y,Z),t(X,Y)", true);
    subsumption("a(Z,Z),t(X,Y)", "a(X,X),t(X,Y)", true);
    subsumption("a(Z,Z),t(X,Y)", "a(Y,Y),t(X,Y)", true);
    subsumption("a(Z,Z),t(X,Y)", "a(X,Y),a(Y,X),t(X,Y)", false);
    // Two literals may become the same one, so that the clause with more of them subsumes.
    subsumption("a(X,Y),a(X,Z)", "a(X,Y)", true);
    subsumption("a(X,Y),a(Z,Y),a(X,Z)", "a(X,Y),a(X,X)", true);
    subsumption("t(X,Y),t(Z,Y)", "t(X,Y)", true);
    // Without Z there is nothing to put in its place, and every literal has to be there.
    subsumption("a(X,Y)", "a(X,Y),a(Z,Z)", true);
    subsumption("a(X,Y)", "a(X,Z),a(Z,Y)", false);
  }

  /** Promise 13: "some variable for Z": no literal becomes any but these three. */
  private static void subsumesLiteralByLiteral() {
    for (int code = 0; code < 27; code++) {
      for (int other = 0; other < 27; other++) {
        // The literal that brings in X and Y is another one than these two.
        int both = code != 1 && other != 1 ? 1 : code != 3 && other != 3 ? 3 : 10;
        String literal = Model.written(code);
        String wanted = Model.written(other);
        boolean due = wanted.equals(literal.replace('Z', 'X'))
            || wanted.equals(literal.replace('Z', 'Y'))
            || Model.written(both).equals(literal.replace('Z', 'X'))
            || Model.written(both).equals(literal.replace('Z', 'Y'));
        if (code != other) {
          subsumption(literal + "," + Model.written(both), wanted + "," + Model.written(both), due);
        }
      }
    }
  }

  /** Promise 13: "the substitution of some variable": one and the same for every literal. */
  private static void subsumesWithOneVariableAtATime() {
    subsumption("a(X,Z),b(Y,Z)", "a(X,X),b(Y,Y)", false);
    subsumption("a(X,Z),b(Y,Z)", "a(X,Y),b(Y,Z)", false);
    subsumption("a(X,Z),b(Z,Y)", "a(X,X),b(Z,Y)", false);
    subsumption("a(Z,Z),b(X,Y)", "a(Z,X),b(X,Y)", false);
  }

  /** Promise 13: "(X and Y staying)". */
  private static void subsumesWithXAndYStaying() {
    subsumption("a(X,Y)", "a(Y,X)", false);
    subsumption("a(X,Y)", "a(X,X),a(Y,Y)", false);
    subsumption("a(X,Y),b(X,Z)", "a(Y,X),b(Y,Z)", false);
    subsumption("a(X,Y),a(X,X)", "a(X,Y),a(Z,Z)", false);
  }

  /** Promise 13: "makes every literal in the body of clause i one in the body of clause j". */
  private static void subsumesEveryLiteral() {
    subsumption("a(X,Y),b(X,Y),t(X,Y)", "a(X,Y),b(X,Y)", false);
    subsumption("a(X,Y),b(X,Y)", "a(X,Y),b(X,Y),t(X,Y)", true);
    subsumption("a(X,Y),b(X,Y)", "a(X,Y),t(X,Y),b(Y,X)", false);
    subsumption("t(X,X),a(X,Y)", "a(X,Y),t(Y,Y)", false);
    subsumption("a(X,Y)", "b(X,Y)", false);
    subsumption("b(X,Y)", "t(X,Y)", false);
  }

  /** Promise 13: "some variable for Z" may be Z, so that a clause subsumes itself. */
  private static void subsumesItself() {
    Counted x = withTwoClauses();
    Check.due("subsumes(0, 0)", true, x.subsumes(0, 0));
    Check.due("subsumes(1, 1)", true, x.subsumes(1, 1));
    Check.due("subsumes(0, 1)", false, x.subsumes(0, 1));
    Check.due("subsumes(1, 0)", false, x.subsumes(1, 0));
  }

  /** Promise 13: "false when there is no such clause.": the one, the other, or both. */
  private static void subsumesOfNoClause() {
    Counted two = withTwoClauses();
    for (int wrong : NO_NUMBERS) {
      Check.due("subsumes(0, " + wrong + ")", false, two.subsumes(0, wrong));
      Check.due("subsumes(1, " + wrong + ")", false, two.subsumes(1, wrong));
      Check.due("subsumes(" + wrong + ", 0)", false, two.subsumes(wrong, 0));
      Check.due("subsumes(" + wrong + ", 1)", false, two.subsumes(wrong, 1));
      Check.due("subsumes(" + wrong + ", " + wrong + ")", false, two.subsumes(wrong, wrong));
    }
    Counted one = Check.with("t(X,Y):-a(X,Y)");
    Check.due("subsumes(0, 1) of one", false, one.subsumes(0, 1));
    Check.due("subsumes(1, 0) of one", false, one.subsumes(1, 0));
    Check.due("subsumes(1, 1) of one", false, one.subsumes(1, 1));
    Check.due("subsumes(0, 0) of none", false, new Counted().subsumes(0, 0));
    Check.due("subsumes(1, 1) of none", false, new Counted().subsumes(1, 1));
    two.drop(0);
    Check.due("subsumes(0, 1) after a drop", false, two.subsumes(0, 1));
    Check.due("subsumes(1, 1) after a drop", false, two.subsumes(1, 1));
  }
}

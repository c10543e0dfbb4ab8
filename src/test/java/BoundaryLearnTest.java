/**
 * The boundary cases in the promises 14 to 17 and in what "Terms" says of rounds, fitting and
 * learning. Each test names the sentence that it would fail for.
 */
public final class BoundaryLearnTest {
  private static final int[] NO_CONSTANTS = {
    -1, 4, -2, 5, -4, 16, 32, 64, -32, 256, 65536, 1 << 29, 1 << 30, 3 << 30,
    Integer.MIN_VALUE, Integer.MIN_VALUE + 1, Integer.MAX_VALUE - 1, Integer.MAX_VALUE
  };
  private static final String ALL_ONE = "1 1 1 1/1 1 1 1/1 1 1 1/1 1 1 1/";
  private static final String ALL_NONE = "0 0 0 0/0 0 0 0/0 0 0 0/0 0 0 0/";

  public static void main(String[] args) {
    roundGivesAllItCan();
    roundGivesNothingTwice();
    choiceIsAnyConstants();
    choiceIsThereForALoneVariable();
    everyLiteralHolds();
    literalHoldsByItsOwnRelation();
    tHoldsFromTheNextRoundOn();
    marksDoNotHold();
    givenFromRoundOne();
    givenNotAtAll();
    givenOfNoConstant();
    givenFollowsEveryChange();
    roundsOfNothing();
    roundsDoNotCountTheLast();
    roundsOfEveryNumber();
    roundsAtTheirMost();
    fitsWithNothingMarked();
    fitsWithEveryPairMarked();
    fitsNeedsEveryPlus();
    fitsAllowsNoMinus();
    learnAnswersTheSize();
    learnTakesNoEmptyProgram();
    learnTakesNoProgramOfSizeFour();
    learnTakesTheLessSize();
    learnTakesFewerClauses();
    learnTakesLessCodesOfOneClause();
    learnTakesLessCodesOfTwoClauses();
    learnPutsTheShorterClauseFirst();
    learnPutsTheLessCodesFirst();
    learnReachesTheEndsOfTheCodes();
    learnChangesOnlyTheProgram();
    learnReplacesClauses();
    learnOfNothingChangesNothing();
    learnWithAllMarked();
    Check.end();
  }

  /** These facts, and all pairs marked: those that are listed +, the others -. */
  private static Counted wholeTask(String facts, String plus) {
    Counted x = new Counted();
    if (!facts.isEmpty()) {
      Check.enters(x, 1, facts.split(" "));
    }
    for (int pair = 0; pair < 16; pair++) {
      boolean listed = plus.contains(Check.pair(pair));
      Check.enters(x, 1, (listed ? "+t" : "-t") + Check.pair(pair));
    }
    return x;
  }

  private static String typed(String bodies) {
    return "t(X,Y):-" + bodies.replace(";", ";t(X,Y):-");
  }

  private static Counted learns(String facts, String plus, int size, String bodies) {
    Counted x = wholeTask(facts, plus);
    Check.due("learn() of " + bodies, size, x.learn());
    Check.due("what was learnt", typed(bodies), Check.text(x));
    Check.due("fits() of " + bodies, true, x.fits());
    return x;
  }

  private static void enterProgram(Counted x, String bodies) {
    while (x.clauses() > 0) {
      Check.due("drop(0)", true, x.drop(0));
    }
    int answer = 10;
    for (String clause : typed(bodies).split(";")) {
      Check.enters(x, answer, clause);
      answer++;
    }
  }

  /** Both programs fit, and the first is taken. */
  private static void takes(String facts, String plus, int size, String first, String later) {
    Counted x = learns(facts, plus, size, first);
    enterProgram(x, later);
    Check.due("fits() of " + later, true, x.fits());
    Check.due("learn() once more", size, x.learn());
    Check.due("what was learnt instead of " + later, typed(first), Check.text(x));
  }

  // ---- rounds -----------------------------------------------------------------------------

  /** Terms: "in a round it gives all pairs that it has not given before": none left for later. */
  private static void roundGivesAllItCan() {
    Counted x = new Counted();
    Check.entersAllPairs(x, 1, "b");
    Check.enters(x, 10, "t(X,Y):-b(X,Y)");
    Check.enters(x, 11, "t(X,Y):-b(X,Y),t(X,Y)");
    Check.due("given from all facts", ALL_ONE, Check.given(x));
    Check.due("rounds() from all facts", 1, x.rounds());
    // Both clauses give in one round.
    Counted both = Check.with("a(0,1)", "b(2,3)", "t(X,Y):-a(X,Y)", "t(X,Y):-b(X,Y)");
    Check.due("given by both", "0 1 0 0/0 0 0 0/0 0 0 1/0 0 0 0/", Check.given(both));
  }

  /** Terms: "all pairs that it has not given before": the first round of a pair is its round. */
  private static void roundGivesNothingTwice() {
    Counted x = Check.with("a(0,1)", "a(1,0)", "t(X,Y):-a(X,Y)", "t(X,Y):-t(X,Z),t(Z,Y)");
    Check.due("given on a ring of two", "2 1 0 0/1 2 0 0/0 0 0 0/0 0 0 0/", Check.given(x));
    Check.due("rounds() on a ring of two", 2, x.rounds());
    Counted loop = Check.with("a(3,3)", "t(X,Y):-a(X,Y)", "t(X,Y):-t(X,Z),t(Z,Y)");
    Check.due("given on a loop", "0 0 0 0/0 0 0 0/0 0 0 0/0 0 0 1/", Check.given(loop));
    Check.due("rounds() on a loop", 1, loop.rounds());
  }

  /** Terms: "a choice of constants for X, Y, Z": any, the first and the last, like or unlike. */
  private static void choiceIsAnyConstants() {
    for (int choice = 0; choice < 64; choice++) {
      int u = choice / 16;
      int v = choice / 4 % 4;
      int w = choice % 4;
      String ab = "a(" + u + "," + w + ")";
      Counted x = Check.with(ab, "b(" + w + "," + v + ")", "t(X,Y):-a(X,Z),b(Z,Y)");
      for (int pair = 0; pair < 16; pair++) {
        int due = pair == 4 * u + v ? 1 : 0;
        String call = "given" + Check.pair(pair) + " of choice " + choice;
        Check.due(call, due, x.given(pair / 4, pair % 4));
      }
    }
  }

  /** Terms: "a choice of constants for X, Y, Z": Z may be any where the body does not bind it. */
  private static void choiceIsThereForALoneVariable() {
    Counted without = Check.with("a(3,0)", "t(X,Y):-a(X,Y)");
    Check.due("given without Z", 1, without.given(3, 0));
    Counted lone = Check.with("a(3,0)", "b(1,1)", "t(X,Y):-a(X,Y),b(Z,Z)");
    Check.due("given with another literal of Z", 1, lone.given(3, 0));
    Check.enters(lone, 1, "~b(1,1)", "b(1,2)");
    Check.due("given when Z has no choice", 0, lone.given(3, 0));
    Counted apart = Check.with("a(0,0)", "b(3,3)", "t(X,Y):-a(X,X),b(Y,Y)");
    Check.due("given with X and Y apart", "0 0 0 1/0 0 0 0/0 0 0 0/0 0 0 0/", Check.given(apart));
  }

  /** Terms: "such that every literal of the body holds": two of three are not enough. */
  private static void everyLiteralHolds() {
    String[] facts = {"a(0,1)", "a(1,2)", "b(2,0)"};
    for (int missing = 0; missing < 3; missing++) {
      Counted x = Check.with("t(X,Y):-a(X,Z),a(Z,Y),b(Y,X)");
      for (int i = 0; i < 3; i++) {
        if (i != missing) {
          Check.enters(x, 1, facts[i]);
        }
      }
      Check.due("given with two of three", ALL_NONE, Check.given(x));
      Check.enters(x, 1, facts[missing]);
      Check.due("given with all three", "0 0 1 0/0 0 0 0/0 0 0 0/0 0 0 0/", Check.given(x));
    }
  }

  /** Terms: "its pair is a fact there, or, for t, was given": each of the 27 literals. */
  private static void literalHoldsByItsOwnRelation() {
    for (int code = 0; code < 27; code++) {
      String literal = Model.written(code);
      boolean ofT = code >= 18;
      String full = code / 9 == 1 ? "a" : "b";
      String lone = code / 9 == 1 ? "b" : "a";
      Counted x = new Counted();
      Check.entersAllPairs(x, 1, full);
      Check.enters(x, 10, "t(X,Y):-" + literal + "," + full + "(X,Y)");
      Check.due("given, " + literal + " not there", ALL_NONE, Check.given(x));
      Check.enters(x, 1, lone + "(1,2)", lone + "(3,3)");
      if (ofT) {
        Check.due("given, " + literal + " not given", ALL_NONE, Check.given(x));
        Check.enters(x, 11, "t(X,Y):-a(X,Y)");
      }
      // What is given later comes from pairs of round 2.
      String firstTwoRounds = Check.given(x).replaceAll("[3-9]", "0");
      Check.due("given, " + literal + " there", roundsWith(literal, ofT), firstTwoRounds);
    }
  }

  /** The literal holds for the pairs (1,2) and (3,3), which, if it is one of t, round 1 gives. */
  private static String roundsWith(String literal, boolean ofT) {
    String all = "";
    for (int pair = 0; pair < 16; pair++) {
      boolean lone = pair == 6 || pair == 15;
      boolean holds = false;
      for (int z = 0; z < 4; z++) {
        String there = literal.substring(1).replace("X", "" + pair / 4).replace("Y", "" + pair % 4)
            .replace("Z", "" + z);
        holds |= there.equals("(1,2)") || there.equals("(3,3)");
      }
      int roundOfHolding = ofT ? 2 : 1;
      int round = ofT && lone ? 1 : holds ? roundOfHolding : 0;
      all += round + (pair % 4 == 3 ? "/" : " ");
    }
    return all;
  }

  /** Terms: "or, for t, was given in a round before": not in the same round, in either order. */
  private static void tHoldsFromTheNextRoundOn() {
    Counted before = Check.with("a(0,1)", "t(X,Y):-t(Y,X)", "t(X,Y):-a(X,Y)");
    Check.due("given, t first", "0 1 0 0/2 0 0 0/0 0 0 0/0 0 0 0/", Check.given(before));
    Counted behind = Check.with("a(0,1)", "t(X,Y):-a(X,Y)", "t(X,Y):-t(Y,X)");
    Check.due("given, t last", "0 1 0 0/2 0 0 0/0 0 0 0/0 0 0 0/", Check.given(behind));
    Counted chain = Check.with("a(0,1)", "a(1,2)", "a(2,3)", "t(X,Y):-t(X,Z),a(Z,Y)",
        "t(X,Y):-a(X,Y)");
    Check.due("given along a chain", "0 1 2 3/0 0 1 2/0 0 0 1/0 0 0 0/", Check.given(chain));
  }

  /** Terms: "its pair is a fact there, or, for t, was given": a mark is neither. */
  private static void marksDoNotHold() {
    Counted x = Check.with("+t(0,1)", "-t(1,2)", "t(X,Y):-t(X,Y)", "t(X,Y):-t(X,Z),t(Z,Y)");
    Check.due("given from marks", ALL_NONE, Check.given(x));
    Check.due("rounds() from marks", 0, x.rounds());
    // Nor does a mark - keep a pair from being given.
    Counted minus = Check.with("-t(0,1)", "a(0,1)", "t(X,Y):-a(X,Y)");
    Check.due("given of a pair marked -", 1, minus.given(0, 1));
  }

  /** Promise 14: "The round (from 1 on) in which the program gives the pair". */
  private static void givenFromRoundOne() {
    Counted x = Check.with("a(3,3)", "t(X,Y):-a(X,Y)");
    Check.due("given(3, 3)", 1, x.given(3, 3));
    Check.due("given(3, 3) once more", 1, x.given(3, 3));
    Counted first = Check.with("b(0,0)", "t(X,Y):-b(X,Y)");
    Check.due("given(0, 0)", 1, first.given(0, 0));
  }

  /** Promise 14: "0 when it does not": no clause, no fact, or none that leads there. */
  private static void givenNotAtAll() {
    Check.due("given of no clause", ALL_NONE, Check.given(Check.with("a(0,0)")));
    Check.due("given of no fact", ALL_NONE, Check.given(Check.with("t(X,Y):-a(X,Y)")));
    Counted other = Check.with("a(0,0)", "t(X,Y):-b(X,Y)");
    Check.due("given of the other relation", ALL_NONE, Check.given(other));
    Counted turned = Check.with("a(0,1)", "t(X,Y):-a(X,Y)");
    Check.due("given(1, 0) of a(0,1)", 0, turned.given(1, 0));
  }

  /** Promise 14: "or x or y is no constant.", though every pair is given. */
  private static void givenOfNoConstant() {
    Counted x = new Counted();
    Check.entersAllPairs(x, 1, "a");
    Check.enters(x, 10, "t(X,Y):-a(X,Y)");
    for (int wrong : NO_CONSTANTS) {
      Check.due("given(0, " + wrong + ")", 0, x.given(0, wrong));
      Check.due("given(1, " + wrong + ")", 0, x.given(1, wrong));
      Check.due("given(" + wrong + ", 0)", 0, x.given(wrong, 0));
      Check.due("given(" + wrong + ", 3)", 0, x.given(wrong, 3));
      Check.due("given(" + wrong + ", " + wrong + ")", 0, x.given(wrong, wrong));
    }
    // 4 * x + y would be the number of a pair here.
    Check.due("given(-1, 4)", 0, x.given(-1, 4));
    Check.due("given(0, 15)", 0, x.given(0, 15));
    Check.due("given(1, -1)", 0, x.given(1, -1));
    Check.due("given(4, -16)", 0, x.given(4, -16));
  }

  /** Promise 14: "the program": as it is now, with the facts as they are now. */
  private static void givenFollowsEveryChange() {
    Counted x = Check.with("a(0,1)", "t(X,Y):-a(X,Y)");
    Check.due("given(0, 1)", 1, x.given(0, 1));
    Check.enters(x, 1, "~a(0,1)");
    Check.due("given(0, 1), the fact gone", 0, x.given(0, 1));
    Check.enters(x, 1, "b(0,1)");
    Check.enters(x, 11, "t(X,Y):-b(X,Y)");
    Check.due("given(0, 1), by clause 1", 1, x.given(0, 1));
    Check.due("drop(1)", true, x.drop(1));
    Check.due("given(0, 1), clause 1 gone", 0, x.given(0, 1));
    Check.enters(x, 1, "+t(0,1)");
    Check.due("learn()", 1, x.learn());
    Check.due("given(0, 1), learnt", 1, x.given(0, 1));
    Check.enters(x, 1, "+t(2,2)");
    Check.due("learn() of nothing", 0, x.learn());
    Check.due("given, after learning nothing", "0 1 0 0/0 0 0 0/0 0 0 0/0 0 0 0/", Check.given(x));
    Check.due("rounds(), after learning nothing", 1, x.rounds());
  }

  /** Promise 15 and Terms: "The rounds end with one that gives nothing (it is not counted)." */
  private static void roundsOfNothing() {
    Check.due("rounds() of no clause", 0, Check.with("a(0,0)", "b(0,0)").rounds());
    Check.due("rounds() of no fact", 0, Check.with("t(X,Y):-a(X,Y)").rounds());
    Counted x = Check.with("a(0,0)", "t(X,Y):-t(X,Y)", "t(X,Y):-a(X,Y),t(Z,Z)");
    Check.due("rounds() of t alone", 0, x.rounds());
    Check.due("fits() of no rounds", true, x.fits());
  }

  /** Promise 15 and Terms: "(it is not counted)": one round more only with one pair more. */
  private static void roundsDoNotCountTheLast() {
    Counted x = Check.with("t(X,Y):-a(X,Y)", "t(X,Y):-t(X,Z),a(Z,Y)");
    String[] facts = {"a(0,1)", "a(1,2)", "a(2,3)", "a(3,0)"};
    for (int i = 0; i < 4; i++) {
      Check.due("rounds() with " + i + " facts", i, x.rounds());
      Check.enters(x, 1, facts[i]);
    }
    Check.due("rounds() with a ring", 4, x.rounds());
    Check.due("drop(1)", true, x.drop(1));
    Check.due("rounds() without t", 1, x.rounds());
  }

  /** Promise 15: "How many rounds the program has.": one, two, three and so on, up to fifteen. */
  private static void roundsOfEveryNumber() {
    // The pair that round 1 gives, the facts of b, and the rounds of all pairs.
    String[][] programs = {
      {"23", "21", "0 0 0 0/0 0 0 0/0 0 0 1/0 0 0 0/"},
      {"23", "13", "0 0 0 0/0 0 2 0/0 0 0 1/0 0 0 0/"},
      {"11", "01", "3 2 0 0/0 1 0 0/0 0 0 0/0 0 0 0/"},
      {"02", "10 22", "0 0 1 0/0 0 3 0/2 4 0 0/0 0 0 0/"},
      {"00", "23 30", "1 0 0 0/0 0 0 0/0 0 5 4/2 0 0 3/"},
      {"01", "10 12 21", "0 1 0 0/0 4 3 0/2 5 6 0/0 0 0 0/"},
      {"22", "02 10 31", "3 0 2 0/4 5 0 0/0 0 1 0/0 6 0 7/"},
      {"00", "02 23 30 32", "1 0 6 7/0 0 0 0/8 0 5 4/2 0 6 3/"},
      {"33", "00 02 23 30", "5 0 4 7/0 0 0 0/8 0 3 2/6 0 9 1/"},
      {"02", "02 10 12 21 30", "2 7 1 10/2 3 6 4/8 4 5 4/3 3 9 4/"},
      {"31", "01 13 21 22 32", "11 10 5 2/3 9 3 8/6 4 5 2/6 1 6 7/"},
      {"31", "00 03 10 21 32", "6 6 3 5/7 8 8 5/7 9 10 2/4 1 11 12/"},
      {"03", "01 11 12 23 30", "9 8 6 1/7 7 6 4/2 5 13 12/10 8 3 11/"},
      {"31", "03 12 20 31 32", "4 9 12 3/13 8 7 8/5 14 6 11/10 1 7 2/"},
      {"32", "02 03 10 21 32", "3 11 8 2/4 5 13 10/12 6 7 15/9 14 1 2/"},
    };
    for (int i = 0; i < programs.length; i++) {
      Counted x = Check.with("t(X,Y):-a(X,Y)", "t(X,Y):-b(X,Z),t(Y,Z)");
      Check.enters(x, 1, "a(" + programs[i][0].charAt(0) + "," + programs[i][0].charAt(1) + ")");
      for (String fact : programs[i][1].split(" ")) {
        Check.enters(x, 1, "b(" + fact.charAt(0) + "," + fact.charAt(1) + ")");
      }
      Check.due("rounds() with b " + programs[i][1], i + 1, x.rounds());
      Check.due("given with b " + programs[i][1], programs[i][2], Check.given(x));
    }
  }

  /**
   * Promise 15: "How many rounds the program has.": fifteen, the most that there are. A sixteenth
   * needs one pair in every round, and none of all clauses with t and all facts comes to that.
   */
  private static void roundsAtTheirMost() {
    Counted x = Check.with("a(0,0)", "b(0,3)", "b(1,2)", "b(2,0)", "b(2,3)", "b(3,1)",
        "t(X,Y):-a(X,Y)", "t(X,Y):-b(X,Z),t(Y,Z)");
    Check.due("given in 15 rounds", "1 14 9 8/10 5 4 13/2 11 3 8/15 6 12 7/", Check.given(x));
    Check.due("rounds()", 15, x.rounds());
    Check.enters(x, 1, "+t(3,0)");
    Check.due("fits() with the last pair +", true, x.fits());
    Check.enters(x, 1, "-t(3,0)");
    Check.due("fits() with the last pair -", false, x.fits());
    Check.enters(x, 1, "~a(0,0)");
    Check.due("given without the first pair", ALL_NONE, Check.given(x));
    Check.due("rounds() without the first pair", 0, x.rounds());
  }

  // ---- fitting ----------------------------------------------------------------------------

  /** Promise 16 and Terms: "gives every pair marked + and none marked -": all do if none is. */
  private static void fitsWithNothingMarked() {
    Counted x = new Counted();
    Check.due("fits(), nothing at all", true, x.fits());
    Check.enters(x, 1, "a(0,0)");
    Check.due("fits() of no clause", true, x.fits());
    Check.enters(x, 10, "t(X,Y):-a(X,Y)");
    Check.due("fits() of one clause", true, x.fits());
    Check.enters(x, 1, "+t(1,1)", "~t(1,1)", "-t(0,0)", "~t(0,0)");
    Check.due("fits() of marks that are gone", true, x.fits());
  }

  /** Promise 16: "Whether the program fits.": all pairs marked +, and all marked -. */
  private static void fitsWithEveryPairMarked() {
    Counted x = new Counted();
    Check.entersAllPairs(x, 1, "a");
    Check.enters(x, 10, "t(X,Y):-a(X,Y)");
    Check.entersAllPairs(x, 1, "+t");
    Check.due("fits(), all given and +", true, x.fits());
    Check.enters(x, 1, "~a(3,3)");
    Check.due("fits(), one of all not given", false, x.fits());
    Check.due("drop(0)", true, x.drop(0));
    Check.due("fits(), none given and all +", false, x.fits());
    Counted minus = new Counted();
    Check.entersAllPairs(minus, 1, "-t");
    Check.due("fits(), none given and all -", true, minus.fits());
    Check.enters(minus, 10, "t(X,Y):-a(X,Y)");
    Check.due("fits(), still none given", true, minus.fits());
    Check.enters(minus, 1, "a(3,3)");
    Check.due("fits(), one given and all -", false, minus.fits());
  }

  /** Promise 16 and Terms: "gives every pair marked +": each of them. */
  private static void fitsNeedsEveryPlus() {
    for (int pair = 0; pair < 16; pair++) {
      String other = "a" + Check.pair(15 - pair);
      Counted x = Check.with("t(X,Y):-a(X,Y)", other, "+t" + Check.pair(pair));
      Check.due("fits() without " + Check.pair(pair), false, x.fits());
      Check.enters(x, 1, "a" + Check.pair(pair));
      Check.due("fits() with " + Check.pair(pair), true, x.fits());
    }
    Counted two = Check.with("t(X,Y):-a(X,Y)", "a(0,0)", "+t(0,0)", "+t(3,3)");
    Check.due("fits() with one of two", false, two.fits());
  }

  /** Promise 16 and Terms: "and none marked -": not one of them, in whatever round. */
  private static void fitsAllowsNoMinus() {
    for (int pair = 0; pair < 16; pair++) {
      String other = "a" + Check.pair(15 - pair);
      Counted x = Check.with("t(X,Y):-a(X,Y)", other, "-t" + Check.pair(pair));
      Check.due("fits() without " + Check.pair(pair), true, x.fits());
      Check.enters(x, 1, "a" + Check.pair(pair));
      Check.due("fits() with " + Check.pair(pair), false, x.fits());
    }
    Counted later = Check.with("a(0,1)", "a(1,2)", "t(X,Y):-a(X,Y)", "t(X,Y):-t(X,Z),t(Z,Y)");
    Check.enters(later, 1, "+t(0,1)", "-t(0,2)");
    Check.due("fits(), given in round 2 and -", false, later.fits());
    Check.enters(later, 1, "+t(0,2)");
    Check.due("fits(), given in round 2 and +", true, later.fits());
  }

  // ---- learning ---------------------------------------------------------------------------

  /** Promise 17: "answers its size", and Terms: "how many literals its bodies have together". */
  private static void learnAnswersTheSize() {
    learns("b(3,0)", "(0,3)", 1, "b(Y,X)");
    learns("b(2,0)", "(0,0)", 2, "b(Z,X),b(Z,Y)");
    learns("b(3,2)", "(2,3)(3,2)", 2, "b(X,Y);b(Y,X)");
    learns("b(1,1) b(1,2) b(2,0) a(3,3)", "(1,1)(1,2)(2,1)(2,2)", 3, "b(Z,X),b(Z,Y),b(Z,Z)");
    learns("a(3,2)", "(3,2)(3,3)", 3, "a(X,Y);a(X,Z),a(Y,Z)");
  }

  /** Terms: "a program of size 1, 2 or 3": one without clauses is none of these. */
  private static void learnTakesNoEmptyProgram() {
    Counted x = new Counted();
    Check.due("fits() of no clause", true, x.fits());
    Check.due("learn() with nothing marked", 1, x.learn());
    Check.due("what was learnt", "t(X,Y):-a(X,Y)", Check.text(x));
    Counted minus = Check.with("a(0,1)", "b(0,1)", "-t(0,1)", "-t(1,0)");
    Check.due("learn() of nothing given", 1, minus.learn());
    Check.due("what was learnt", "t(X,Y):-t(X,Y)", Check.text(minus));
  }

  /** Terms: "a program of size 1, 2 or 3": a larger one is not found, though it fits. */
  private static void learnTakesNoProgramOfSizeFour() {
    largerStays("a(1,1) b(1,0) b(3,2)", "(0,0)(1,0)(3,2)", "b(X,Y);a(Z,Z),b(Z,Y),t(Z,X)");
    largerStays("a(3,1)", "(1,1)(3,1)(3,3)", "a(Z,Y),t(Z,X);a(X,Z),a(Y,Z)");
    largerStays("a(3,0)", "(0,0)(3,3)", "a(X,Z),a(Y,Z);a(Z,X),a(Z,Y),t(Z,Z)");
    largerStays("a(0,3) b(0,3)", "(0,0)(3,0)(3,3)", "a(X,Z),a(Y,Z),b(Y,Z);a(Z,X),b(Z,X),t(Y,Z)");
  }

  private static void largerStays(String facts, String plus, String bodies) {
    Counted x = wholeTask(facts, plus);
    enterProgram(x, bodies);
    Check.due("fits() of " + bodies, true, x.fits());
    Check.due("learn() beside " + bodies, 0, x.learn());
    Check.due("the program after it", typed(bodies), Check.text(x));
  }

  /** Terms: "the one of less size", though its codes are greater or its clauses more. */
  private static void learnTakesTheLessSize() {
    takes("b(0,1) a(0,1) a(0,2)", "(0,1)", 1, "b(X,Y)", "a(X,Y),b(X,Y)");
    takes("b(0,1) a(0,1) a(0,2)", "(0,1)", 1, "b(X,Y)", "a(X,Y),a(X,Z),b(X,Y)");
    takes("b(0,1) a(0,1) a(0,2)", "(0,1)", 1, "b(X,Y)", "b(X,Y);t(X,Y)");
    takes("b(2,0)", "(0,0)", 2, "b(Z,X),b(Z,Y)", "a(X,Y);b(Z,X),b(Z,Y)");
    takes("a(3,1)", "(1,3)(3,1)", 2, "a(X,Y);a(Y,X)", "a(X,Y);a(Y,X),a(Y,Z)");
    // Two clauses of size 2 come before one clause of size 3.
    takes("a(1,0) b(0,0) b(1,0) b(1,1) b(2,1)", "(0,0)(0,1)(1,0)(1,1)(2,1)", 2, "a(Y,X);b(X,Y)",
        "b(X,Z),b(Y,Y),b(Y,Z)");
  }

  /** Terms: "of these the one with fewer clauses", though its codes are greater. */
  private static void learnTakesFewerClauses() {
    takes("a(2,2) a(2,3) a(3,3)", "(2,2)(2,3)(3,2)(3,3)", 2, "a(X,X),a(Y,Y)", "a(X,Y);a(Y,X)");
    takes("a(1,3) b(0,2) b(1,3) b(3,1)", "(1,3)(3,1)", 2, "b(X,Y),b(Y,X)", "a(X,Y);a(Y,X)");
    takes("a(2,2) b(1,1) b(2,3) b(3,3)", "(2,2)(3,2)", 3, "a(Y,Y),b(X,Z),b(Y,Z)",
        "a(X,Y);a(Y,Y),b(Y,X)");
  }

  /** Terms: "whose codes ... are less at the first place where they differ": at each place. */
  private static void learnTakesLessCodesOfOneClause() {
    takes("a(1,0) b(0,1)", "(0,1)", 1, "a(Y,X)", "b(X,Y)");
    takes("b(0,0) b(3,0)", "(0,0)", 2, "b(X,X),b(X,Y)", "b(X,Y),b(Y,X)");
    takes("b(0,0) b(3,0)", "(0,0)", 2, "b(X,X),b(X,Y)", "b(X,X),b(Y,Y)");
    takes("a(0,2) a(3,2) b(2,0) b(3,3)", "(0,3)", 3, "a(X,Z),b(Y,Y),b(Z,X)",
        "a(Y,Z),b(Y,Y),b(Z,X)");
    takes("a(1,0) a(2,3) a(3,3) b(2,2)", "(2,2)(3,2)", 3, "a(X,Z),a(Y,Z),b(Y,Y)",
        "a(X,Z),a(Z,Z),b(Y,Y)");
    takes("a(2,1) a(3,0) b(1,1) b(1,2)", "(2,2)", 3, "a(X,Z),a(Y,Z),b(Z,X)",
        "a(X,Z),a(Y,Z),b(Z,Y)");
    // Less at the first place, and greater at a later one.
    takes("a(2,2) a(3,0) b(0,3)", "(3,3)", 2, "a(X,Z),b(Z,Y)", "a(Y,Z),b(Z,X)");
    takes("a(1,3) a(2,0) b(0,2) b(1,1) b(3,0)", "(0,1)", 3, "a(Y,Z),b(Y,Y),b(Z,X)",
        "a(Z,X),b(X,Z),b(Y,Y)");
    takes("a(1,1) b(0,2) b(1,3) b(2,1) b(3,0)", "(1,0)", 3, "a(X,X),b(X,Z),b(Z,Y)",
        "a(X,X),b(Y,Z),b(Z,X)");
  }

  /** Terms: "(those of clause 0, then those of clause 1) are less at the first place ...". */
  private static void learnTakesLessCodesOfTwoClauses() {
    takes("b(1,3)", "(1,3)(3,1)", 2, "b(X,Y);b(Y,X)", "b(Y,X);t(Y,X)");
    takes("b(1,3)", "(1,3)(3,1)", 2, "b(X,Y);b(Y,X)", "b(X,Y);t(Y,X)");
    takes("a(3,3) b(2,3)", "(2,2)(3,3)", 3, "a(X,Y);b(X,Z),b(Y,Z)", "a(Y,X);b(X,Z),b(Y,Z)");
    takes("a(3,2)", "(3,2)(3,3)", 3, "a(X,Y);a(X,Z),a(Y,Z)", "a(X,Y);a(Y,Z),t(X,Z)");
    takes("a(3,2)", "(3,2)(3,3)", 3, "a(X,Y);a(X,Z),a(Y,Z)", "a(X,Y);a(X,Z),t(Y,Z)");
    // Less at the first place, and greater at a later one.
    takes("a(1,0) b(1,0) b(1,1)", "(0,1)(1,0)(1,1)", 2, "a(X,Y);b(Y,X)", "a(Y,X);b(X,Y)");
    takes("a(3,3) b(2,2)", "(2,2)(2,3)(3,3)", 3, "a(X,Y);b(X,X),t(Y,Z)", "b(X,Y);a(Y,Y),t(Z,X)");
    takes("a(3,2) b(3,3)", "(2,3)(3,2)(3,3)", 3, "a(X,Y);b(Y,Y),t(Z,X)", "a(Y,X);b(X,X),t(Y,Z)");
    takes("b(1,3) b(2,1)", "(1,2)(2,1)", 3, "t(Y,X);b(X,Y),b(Y,Z)", "t(Y,X);b(X,Z),b(Y,X)");
  }

  /** Terms: "clause 0 has fewer literals than clause 1", though its code may be greater. */
  private static void learnPutsTheShorterClauseFirst() {
    Counted x = learns("b(0,2) b(3,0)", "(2,3)(3,2)", 3, "t(Y,X);b(X,Z),b(Z,Y)");
    Check.due("literals(0)", 1, x.literals(0));
    Check.due("literals(1)", 2, x.literals(1));
    Check.due("literal(0, 0)", 21, x.literal(0, 0));
    Check.due("literal(1, 0)", 11, x.literal(1, 0));
    learns("a(0,2) a(2,2) a(3,0)", "(0,2)(2,0)(2,2)(3,0)", 3, "a(X,Y);a(X,X),a(Y,X)");
  }

  /** Terms: "or as many and less codes at the first place where they differ.", typed so or not. */
  private static void learnPutsTheLessCodesFirst() {
    Counted x = wholeTask("b(3,2)", "(2,3)(3,2)");
    enterProgram(x, "b(Y,X);b(X,Y)");
    Check.due("fits() of the other order", true, x.fits());
    Check.due("learn()", 2, x.learn());
    Check.due("the order that is learnt", "t(X,Y):-b(X,Y);t(X,Y):-b(Y,X)", Check.text(x));
    Check.due("literal(0, 0)", 10, x.literal(0, 0));
    Check.due("literal(1, 0)", 12, x.literal(1, 0));
  }

  /** Promise 17: "the program becomes the one that is taken": the least and the greatest codes. */
  private static void learnReachesTheEndsOfTheCodes() {
    learns("", "", 1, "a(X,Y)");
    learns("b(1,2) a(3,0)", "", 1, "t(X,Y)");
    learns("a(0,0) a(3,0)", "(0,0)", 2, "a(X,X),a(X,Y)");
    learns("b(2,0)", "(0,0)", 2, "b(Z,X),b(Z,Y)");
    learns("a(3,1)", "(1,3)(3,1)", 2, "a(X,Y);a(Y,X)");
    learns("a(0,0) a(0,1) a(0,2) a(1,0) a(3,0)", "(0,0)(0,1)", 3, "a(X,X),a(X,Y),a(Y,X)");
    // Code 26, t(Z,Z), stands in no learnt program: without it one of less size fits as well.
    learns("b(1,0) b(1,2) b(2,3)", "(0,0)(0,2)(0,3)(1,0)(1,2)(2,0)(2,2)(2,3)(3,0)(3,2)(3,3)", 3,
        "b(X,Y);t(Z,X),t(Z,Y)");
  }

  /** Promise 17: "the program becomes the one that is taken", and all else stays. */
  private static void learnChangesOnlyTheProgram() {
    Counted x = Check.with("a(0,1)", "b(2,3)", "+t(0,1)", "-t(2,3)", "t(X,Y):-b(X,Y)");
    Check.type(x, "b(3,3");
    Check.due("learn()", 1, x.learn());
    Check.due("state after it", "a(0,1) +t(0,1) b(2,3) -t(2,3) t(X,Y):-a(X,Y)", Check.state(x));
    Check.enters(x, 1, ")");
    Check.due("holds(1, 3, 3)", true, x.holds(1, 3, 3));
  }

  /** Promise 17: "the program becomes the one that is taken": with more clauses, or fewer. */
  private static void learnReplacesClauses() {
    Counted fewer = Check.with("a(0,1)", "+t(0,1)", "t(X,Y):-t(X,Y)", "t(X,Y):-b(X,Y),b(Y,X)");
    Check.due("learn() of one clause", 1, fewer.learn());
    Check.due("clauses() after it", 1, fewer.clauses());
    Check.due("literals(1) after it", -1, fewer.literals(1));
    Check.due("the text after it", "t(X,Y):-a(X,Y)", Check.text(fewer));
    Check.enters(fewer, 11, "t(X,Y):-b(X,Y),b(Y,X)");
    Counted more = wholeTask("b(3,2)", "(2,3)(3,2)");
    Check.enters(more, 10, "t(X,Y):-a(X,Y),b(X,Y),t(X,Y)");
    Check.due("learn() of two clauses", 2, more.learn());
    Check.due("the text after it", "t(X,Y):-b(X,Y);t(X,Y):-b(Y,X)", Check.text(more));
    Check.enters(more, -103, "t(X,Y):-a(X,Y)");
    Check.due("learn() once more", 2, more.learn());
    Check.due("the text is the same", "t(X,Y):-b(X,Y);t(X,Y):-b(Y,X)", Check.text(more));
  }

  /** Promise 17: "0, changing nothing, when none fits.": with no clause, with one, with two. */
  private static void learnOfNothingChangesNothing() {
    String[] programs = {"", "t(X,Y):-a(X,Y)", "t(X,Y):-b(X,Y);t(X,Y):-a(X,Z),b(Z,Z),t(Z,Y)"};
    for (String program : programs) {
      Counted x = Check.with("a(0,1)", "b(1,0)", "+t(2,2)", "-t(3,3)");
      for (String clause : program.isEmpty() ? new String[0] : program.split(";")) {
        Check.due(clause + " is taken", true, Check.enter(x, clause) >= 10);
      }
      Check.type(x, "b(3,3");
      Check.due("learn() of nothing", 0, x.learn());
      Check.due("state after it", "a(0,1) b(1,0) +t(2,2) -t(3,3) " + program, Check.state(x));
      Check.enters(x, 1, ")");
      Check.due("fits() after it", false, x.fits());
    }
  }

  /** Promise 17: "0, changing nothing, when none fits.": all pairs marked, no facts or all. */
  private static void learnWithAllMarked() {
    Counted none = new Counted();
    Check.entersAllPairs(none, 1, "+t");
    Check.due("learn(), all + and no facts", 0, none.learn());
    Check.due("clauses() after it", 0, none.clauses());
    Check.entersAllPairs(none, 1, "-t");
    Check.due("learn(), all - and no facts", 1, none.learn());
    Check.due("what was learnt", "t(X,Y):-a(X,Y)", Check.text(none));
    Counted full = new Counted();
    Check.entersAllPairs(full, 1, "a");
    Check.entersAllPairs(full, 1, "+t");
    Check.due("learn(), all + and all facts", 1, full.learn());
    Check.due("literal(0, 0)", 1, full.literal(0, 0));
    Check.entersAllPairs(full, 1, "-t");
    Check.due("learn(), all - and all facts", 1, full.learn());
    Check.due("literal(0, 0)", 10, full.literal(0, 0));
  }
}

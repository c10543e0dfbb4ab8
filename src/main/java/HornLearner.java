/**
 * Learns small programs of clauses from facts and examples that are typed in, and works out what a
 * program gives.
 *
 * <p>Sets are held as bits, so that no call but the constructor makes an object: a set of pairs of
 * constants has bit 4 * x + y for the pair (x, y), and the body of a clause has the bit of every
 * code in it. A body that is 0 stands for a clause that is not there, since no body is empty.
 */
public final class HornLearner {
  private static final int CONSTANTS = 4;
  private static final int PAIRS = 16;
  private static final int FACT_RELATIONS = 2;
  private static final int T = 2;
  private static final int CODES_OF_A_RELATION = 9;
  private static final int FACT_CODES = 18;
  private static final int CODES = 27;
  private static final int MOST_LITERALS = 3;
  private static final int MOST_CLAUSES = 2;
  private static final int LARGEST_LEARNT = 3;

  private static final String RELATION_NAMES = "abt";
  private static final String VARIABLE_NAMES = "XYZ";
  private static final String CLAUSE_START = "t(X,Y):-";
  private static final int CLAUSE_START_LENGTH = 8;
  // A literal as it is written, with the comma or the end that follows it.
  private static final int LITERAL_WIDTH = 7;

  private static final int SAME_IN_ALL_RELATIONS = 1 | 1 << 9 | 1 << 18;
  private static final int CODES_WITH_X = 0b001001111 * SAME_IN_ALL_RELATIONS;
  private static final int CODES_WITH_Y = 0b010111010 * SAME_IN_ALL_RELATIONS;

  private static final int TWICE = -100;
  private static final int HEAD_VARIABLE_MISSING = -101;
  private static final int CLAUSE_KNOWN = -102;
  private static final int PROGRAM_FULL = -103;
  private static final int FIRST_CLAUSE_ANSWER = 10;

  private final Line line;
  private final int[] factSets;
  private int markedPlus;
  private int markedMinus;
  private final Program program;
  private final Deduction deduction;

  public HornLearner() {
    line = new Line();
    factSets = new int[FACT_RELATIONS];
    markedPlus = 0;
    markedMinus = 0;
    program = new Program();
    deduction = new Deduction();
  }

  public boolean key(char c) {
    return line.add(c);
  }

  public boolean back() {
    return line.removeLast();
  }

  public int enter() {
    int begun = line.begunStatement();
    int answer = line.endsStatement(begun) ? carryOutLine() : -1 - begun;
    line.clear();
    return answer;
  }

  public int facts(int relation) {
    return isFactRelation(relation) ? Integer.bitCount(factSets[relation]) : -1;
  }

  public boolean holds(int relation, int x, int y) {
    return isFactRelation(relation) && (factSets[relation] & pairBit(x, y)) != 0;
  }

  public int mark(int x, int y) {
    int pair = pairBit(x, y);
    if ((markedPlus & pair) != 0) {
      return 1;
    }
    return (markedMinus & pair) != 0 ? -1 : 0;
  }

  public boolean drop(int clause) {
    return program.remove(clause);
  }

  public int clauses() {
    return program.count;
  }

  public int literals(int clause) {
    int body = program.bodyOf(clause);
    return body == 0 ? -1 : Integer.bitCount(body);
  }

  public int literal(int clause, int k) {
    return codeAt(program.bodyOf(clause), k);
  }

  public int letter(int k) {
    return program.letterAt(k);
  }

  public boolean subsumes(int i, int j) {
    int general = program.bodyOf(i);
    int special = program.bodyOf(j);
    if (general == 0 || special == 0) {
      return false;
    }
    for (int variable = 0; variable < 3; variable++) {
      if ((withVariableForZ(general, variable) & ~special) == 0) {
        return true;
      }
    }
    return false;
  }

  public int given(int x, int y) {
    deduceProgram();
    return deduction.roundOf(pairBit(x, y));
  }

  public int rounds() {
    deduceProgram();
    return deduction.roundCount;
  }

  public boolean fits() {
    deduceProgram();
    return deductionFits();
  }

  public int learn() {
    deduction.takeFacts(factSets[0], factSets[1]);
    for (int size = 1; size <= LARGEST_LEARNT; size++) {
      if (learnBody(this, 0, 0, 0, size) || size > 1 && learnTwoClauses(size)) {
        return size;
      }
    }
    return 0;
  }

  // ---- what a line does -------------------------------------------------------------------

  /** The line is a statement. */
  private int carryOutLine() {
    char first = line.at(0);
    if (first == 't') {
      return addClause(line.typedBody(), line.typedLiterals());
    }
    int pair = line.typedPair();
    if (first == '+') {
      return changeMarks(markedPlus | pair, markedMinus & ~pair);
    }
    if (first == '-') {
      return changeMarks(markedPlus & ~pair, markedMinus | pair);
    }
    if (first != '~') {
      return changeFacts(RELATION_NAMES.indexOf(first), pair, true);
    }
    int relation = RELATION_NAMES.indexOf(line.at(1));
    if (relation == T) {
      return changeMarks(markedPlus & ~pair, markedMinus & ~pair);
    }
    return changeFacts(relation, pair, false);
  }

  private int changeFacts(int relation, int pair, boolean there) {
    if (!isFactRelation(relation)) {
      return 0;
    }
    int before = factSets[relation];
    factSets[relation] = there ? before | pair : before & ~pair;
    return factSets[relation] == before ? 0 : 1;
  }

  private int changeMarks(int plus, int minus) {
    boolean same = plus == markedPlus && minus == markedMinus;
    markedPlus = plus;
    markedMinus = minus;
    return same ? 0 : 1;
  }

  private int addClause(int body, int typedLiterals) {
    if (Integer.bitCount(body) < typedLiterals) {
      return TWICE;
    }
    if (!hasHeadVariables(body)) {
      return HEAD_VARIABLE_MISSING;
    }
    if (program.contains(body)) {
      return CLAUSE_KNOWN;
    }
    if (program.count >= MOST_CLAUSES) {
      return PROGRAM_FULL;
    }
    return FIRST_CLAUSE_ANSWER + program.append(body);
  }

  // ---- learning ---------------------------------------------------------------------------

  private void deduceProgram() {
    deduction.takeFacts(factSets[0], factSets[1]);
    deduction.run(program.bodyOf(0), program.bodyOf(1));
  }

  private boolean deductionFits() {
    return (markedPlus & ~deduction.givenPairs) == 0 && (markedMinus & deduction.givenPairs) == 0;
  }

  /** Clause 0 has one literal in every learnt program of two clauses, as the size is at most 3. */
  private boolean learnTwoClauses(int size) {
    for (int code = 0; code < CODES; code++) {
      // Of two clauses of one literal each, the one with the less code comes first.
      int from = size == 2 ? code + 1 : 0;
      if (hasHeadVariables(1 << code) && learnBody(this, 1 << code, 0, from, size - 1)) {
        return true;
      }
    }
    return false;
  }

  /**
   * Looks, in the order of the codes, for the last body of a program that fits: the codes of begun
   * and so many missing ones, each at least from. The body first stands before it, if it is not 0.
   */
  private static boolean learnBody(
      HornLearner learner, int first, int begun, int from, int missing) {
    if (missing <= 0) {
      return learner.takeIfFitting(first, begun);
    }
    for (int code = from; code < CODES; code++) {
      if (learnBody(learner, first, begun | 1 << code, code + 1, missing - 1)) {
        return true;
      }
    }
    return false;
  }

  private boolean takeIfFitting(int first, int last) {
    if (!hasHeadVariables(last)) {
      return false;
    }
    deduction.run(first, last);
    if (!deductionFits()) {
      return false;
    }
    program.become(first, last);
    return true;
  }

  // ---- pairs, bodies and codes ------------------------------------------------------------

  private static boolean isFactRelation(int relation) {
    return relation >= 0 && relation < FACT_RELATIONS;
  }

  /** 0, the empty set, when x or y is no constant. */
  private static int pairBit(int x, int y) {
    boolean constants = x >= 0 && x < CONSTANTS && y >= 0 && y < CONSTANTS;
    return constants ? 1 << (CONSTANTS * x + y) : 0;
  }

  private static boolean hasHeadVariables(int body) {
    return (body & CODES_WITH_X) != 0 && (body & CODES_WITH_Y) != 0;
  }

  private static int codeOf(int relation, int firstVariable, int secondVariable) {
    return CODES_OF_A_RELATION * relation + 3 * firstVariable + secondVariable;
  }

  private static int relationOf(int code) {
    return code / CODES_OF_A_RELATION;
  }

  private static int firstVariableOf(int code) {
    return code / 3 % 3;
  }

  private static int secondVariableOf(int code) {
    return code % 3;
  }

  /** The body is not empty. */
  private static int leastCode(int body) {
    return Integer.bitCount((body & -body) - 1);
  }

  private static int withoutLeastCode(int body) {
    return body & (body - 1);
  }

  /** -1 when the body has no literal k. */
  private static int codeAt(int body, int k) {
    if (k < 0 || k >= Integer.bitCount(body)) {
      return -1;
    }
    int rest = body;
    for (int passed = 0; passed < k; passed++) {
      rest = withoutLeastCode(rest);
    }
    return leastCode(rest);
  }

  private static int withVariableForZ(int body, int variable) {
    int changed = 0;
    int rest = body;
    for (int k = 0; k < MOST_LITERALS && rest != 0; k++) {
      int code = leastCode(rest);
      int u = firstVariableOf(code);
      int v = secondVariableOf(code);
      changed |= 1 << codeOf(relationOf(code), u == 2 ? variable : u, v == 2 ? variable : v);
      rest = withoutLeastCode(rest);
    }
    return changed;
  }

  /** What has been typed, and how it is read. */
  private static final class Line {
    private static final int LONGEST = 32;

    // In these forms f stands for a or b, r for any relation, c for a constant, v for a variable.
    private static final String FACT_FORM = "f(c,c)";
    private static final String NO_MORE_FORM = "~r(c,c)";
    private static final String PLUS_FORM = "+t(c,c)";
    private static final String MINUS_FORM = "-t(c,c)";
    private static final String CLAUSE_FORM = "t(X,Y):-r(v,v),r(v,v),r(v,v)";

    private final char[] typed;
    private int length;

    Line() {
      typed = new char[LONGEST];
      length = 0;
    }

    boolean add(char c) {
      if (c < 32 || c > 126 || length >= LONGEST) {
        return false;
      }
      typed[length] = c;
      length++;
      return true;
    }

    boolean removeLast() {
      if (length == 0) {
        return false;
      }
      length--;
      return true;
    }

    void clear() {
      length = 0;
    }

    /** Character 0, which stands in no statement, where there is none. */
    char at(int index) {
      return index >= 0 && index < length ? typed[index] : (char) 0;
    }

    /** How many characters at the start of the line are the beginning of a statement. */
    int begunStatement() {
      String form = form();
      int begun = 0;
      while (begun < length && begun < form.length()
          && allows(form.charAt(begun), typed[begun])) {
        begun++;
      }
      return begun;
    }

    /** Whether the line, of which so many characters begin a statement, is a whole one. */
    boolean endsStatement(int begun) {
      if (begun == 0 || begun < length) {
        return false;
      }
      if (typed[0] == 't') {
        return length == CLAUSE_START_LENGTH - 1 + LITERAL_WIDTH * typedLiterals()
            && typedLiterals() > 0;
      }
      return length == form().length();
    }

    /** The pair at the end of a statement for a fact or a mark. */
    int typedPair() {
      return pairBit(at(length - 4) - '0', at(length - 2) - '0');
    }

    /** How many literals a statement for a clause has. */
    int typedLiterals() {
      return (length + 1 - CLAUSE_START_LENGTH) / LITERAL_WIDTH;
    }

    /** The body in a statement for a clause; a literal that stands there twice is in it once. */
    int typedBody() {
      int body = 0;
      for (int start = CLAUSE_START_LENGTH; start < length; start += LITERAL_WIDTH) {
        int relation = RELATION_NAMES.indexOf(at(start));
        int u = VARIABLE_NAMES.indexOf(at(start + 2));
        int v = VARIABLE_NAMES.indexOf(at(start + 4));
        body |= 1 << codeOf(relation, u, v);
      }
      return body;
    }

    /** The one form whose statements can begin with the line's first character. */
    private String form() {
      switch (at(0)) {
        case 'a':
        case 'b':
          return FACT_FORM;
        case '~':
          return NO_MORE_FORM;
        case '+':
          return PLUS_FORM;
        case '-':
          return MINUS_FORM;
        case 't':
          return CLAUSE_FORM;
        default:
          return "";
      }
    }

    private static boolean allows(char inForm, char c) {
      switch (inForm) {
        case 'f':
          return c == 'a' || c == 'b';
        case 'r':
          return c == 'a' || c == 'b' || c == 't';
        case 'c':
          return c >= '0' && c <= '3';
        case 'v':
          return c == 'X' || c == 'Y' || c == 'Z';
        default:
          return c == inForm;
      }
    }
  }

  /** The clauses: the bodies of those that are there, then 0. */
  private static final class Program {
    private final int[] bodies;
    int count;

    Program() {
      bodies = new int[MOST_CLAUSES];
      count = 0;
    }

    /** 0 when there is no such clause. */
    int bodyOf(int clause) {
      return clause >= 0 && clause < count ? bodies[clause] : 0;
    }

    boolean contains(int body) {
      return bodyOf(0) == body || bodyOf(1) == body;
    }

    /** There is room for the clause; answers its number. */
    int append(int body) {
      if (count >= MOST_CLAUSES) {
        return -1;
      }
      bodies[count] = body;
      count++;
      return count - 1;
    }

    boolean remove(int clause) {
      if (bodyOf(clause) == 0) {
        return false;
      }
      if (clause == 0) {
        bodies[0] = bodies[1];
      }
      bodies[1] = 0;
      count--;
      return true;
    }

    /** The program with these two bodies, or with the last alone when the first is 0. */
    void become(int first, int last) {
      count = first == 0 ? 1 : 2;
      bodies[0] = first == 0 ? last : first;
      bodies[1] = first == 0 ? 0 : last;
    }

    int letterAt(int k) {
      int place = k;
      for (int clause = 0; clause < count && place >= 0; clause++) {
        int length = textLength(bodies[clause]);
        if (place < length) {
          return letterOf(bodies[clause], place);
        }
        if (place == length && clause + 1 < count) {
          return ';';
        }
        place -= length + 1;
      }
      return -1;
    }

    private static int textLength(int body) {
      return CLAUSE_START_LENGTH + LITERAL_WIDTH * Integer.bitCount(body) - 1;
    }

    /** Character place of the clause's text, which has one. */
    private static int letterOf(int body, int place) {
      if (place < CLAUSE_START_LENGTH) {
        return CLAUSE_START.charAt(place);
      }
      int code = codeAt(body, (place - CLAUSE_START_LENGTH) / LITERAL_WIDTH);
      if (code < 0) {
        return -1;
      }
      switch ((place - CLAUSE_START_LENGTH) % LITERAL_WIDTH) {
        case 0:
          return RELATION_NAMES.charAt(relationOf(code));
        case 1:
          return '(';
        case 2:
          return VARIABLE_NAMES.charAt(firstVariableOf(code));
        case 4:
          return VARIABLE_NAMES.charAt(secondVariableOf(code));
        case 5:
          return ')';
        default:
          return ',';
      }
    }
  }

  /**
   * Works out what a program gives. A set of choices of constants for X, Y and Z has bit
   * 16 * z + 4 * x + y for each, so that a body holds where all of its literals do, and its pairs
   * are the four quarters of that set laid over one another.
   */
  private static final class Deduction {
    private static final int ALL_PAIRS = 0xFFFF;

    // At 4 * variable + constant: the choices in which that variable is that constant.
    private static final long[] CHOICES_WITH = {
      0x000F000F000F000FL, 0x00F000F000F000F0L, 0x0F000F000F000F00L, 0xF000F000F000F000L,
      0x1111111111111111L, 0x2222222222222222L, 0x4444444444444444L, 0x8888888888888888L,
      0x000000000000FFFFL, 0x00000000FFFF0000L, 0x0000FFFF00000000L, 0xFFFF000000000000L
    };

    private final long[] factChoices;
    private final int[] givenInRound;
    int givenPairs;
    int roundCount;

    Deduction() {
      factChoices = new long[FACT_CODES];
      givenInRound = new int[PAIRS + 1];
      givenPairs = 0;
      roundCount = 0;
    }

    void takeFacts(int factsOfA, int factsOfB) {
      for (int code = 0; code < FACT_CODES; code++) {
        int facts = relationOf(code) == 0 ? factsOfA : factsOfB;
        factChoices[code] = choicesWhere(facts, firstVariableOf(code), secondVariableOf(code));
      }
    }

    void run(int body, int otherBody) {
      givenPairs = 0;
      roundCount = 0;
      // Every round that counts gives a new pair, so there are no more of them than pairs.
      for (int round = 1; round <= PAIRS; round++) {
        int more = (pairsFrom(body) | pairsFrom(otherBody)) & ~givenPairs;
        if (more == 0) {
          return;
        }
        givenInRound[round] = more;
        givenPairs |= more;
        roundCount = round;
      }
    }

    /** 0 when the pair was not given. */
    int roundOf(int pair) {
      for (int round = 1; round <= roundCount; round++) {
        if ((givenInRound[round] & pair) != 0) {
          return round;
        }
      }
      return 0;
    }

    private int pairsFrom(int body) {
      if (body == 0) {
        return 0;
      }
      long choices = -1L;
      int rest = body;
      for (int k = 0; k < MOST_LITERALS && rest != 0; k++) {
        int code = leastCode(rest);
        choices &= code < FACT_CODES
            ? factChoices[code]
            : choicesWhere(givenPairs, firstVariableOf(code), secondVariableOf(code));
        rest = withoutLeastCode(rest);
      }
      return (int) (choices | choices >>> 16 | choices >>> 32 | choices >>> 48) & ALL_PAIRS;
    }

    /** The choices in which the variables u and v are one of the pairs. */
    private static long choicesWhere(int pairs, int u, int v) {
      long choices = 0;
      for (int pair = 0; pair < PAIRS && pairs >> pair != 0; pair++) {
        if ((pairs >> pair & 1) != 0) {
          choices |= CHOICES_WITH[CONSTANTS * u + pair / CONSTANTS]
              & CHOICES_WITH[CONSTANTS * v + pair % CONSTANTS];
        }
      }
      return choices;
    }
  }
}

/**
 * A HornLearner whose calls are counted, since the document promises nothing of an object after its
 * 512th call: a test that goes beyond that tests nothing that is promised, and fails.
 */
final class Counted {
  static final int MOST_CALLS = 512;

  private final HornLearner learner = new HornLearner();
  private int calls = 0;

  private HornLearner call() {
    calls++;
    if (calls == MOST_CALLS + 1) {
      Check.due("calls of one object", MOST_CALLS, calls);
    }
    return learner;
  }

  int callsLeft() {
    return MOST_CALLS - calls;
  }

  boolean key(char c) {
    return call().key(c);
  }

  boolean back() {
    return call().back();
  }

  int enter() {
    return call().enter();
  }

  int facts(int relation) {
    return call().facts(relation);
  }

  boolean holds(int relation, int x, int y) {
    return call().holds(relation, x, y);
  }

  int mark(int x, int y) {
    return call().mark(x, y);
  }

  boolean drop(int clause) {
    return call().drop(clause);
  }

  int clauses() {
    return call().clauses();
  }

  int literals(int clause) {
    return call().literals(clause);
  }

  int literal(int clause, int k) {
    return call().literal(clause, k);
  }

  int letter(int k) {
    return call().letter(k);
  }

  boolean subsumes(int i, int j) {
    return call().subsumes(i, j);
  }

  int given(int x, int y) {
    return call().given(x, y);
  }

  int rounds() {
    return call().rounds();
  }

  boolean fits() {
    return call().fits();
  }

  int learn() {
    return call().learn();
  }
}

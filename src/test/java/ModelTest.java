import java.util.List;
import java.util.Random;

/** Runs of calls that come from a fixed seed, each answer compared with the one of the model. */
public final class ModelTest {
  // The dearest step is to learn and then to read the longest text.
  private static final int CALLS_OF_A_STEP = 60;
  private static final String SIGNS = "abt~+-(),:;XYZ0123 4x.";

  private final Random random;
  private Counted learner;
  private Model model;
  private String run;
  private final int[] learntOfSize = new int[4];
  private final int[] learntWithClauses = new int[3];

  private ModelTest(long seed) {
    random = new Random(seed);
  }

  public static void main(String[] args) {
    ModelTest test = new ModelTest(20261115);
    for (int i = 0; i < 150; i++) {
      test.start("mixed run " + i);
      test.mixedRun();
    }
    for (int i = 0; i < 250; i++) {
      test.start("learning run " + i);
      test.learningRun();
    }
    for (int size = 0; size <= 3; size++) {
      Check.due("size " + size + " was learnt often", true, test.learntOfSize[size] >= 10);
    }
    for (int clauses = 1; clauses <= 2; clauses++) {
      Check.due(clauses + " clauses were learnt often", true, test.learntWithClauses[clauses] >= 10);
    }
    Check.end();
  }

  private void start(String name) {
    learner = new Counted();
    model = new Model();
    run = name + ", ";
  }

  private void mixedRun() {
    boolean dense = random.nextBoolean();
    while (learner.callsLeft() >= CALLS_OF_A_STEP) {
      int kind = random.nextInt(dense ? 14 : 20);
      if (kind < 5) {
        enterLine(factOrMark());
      } else if (kind < 8) {
        enterLine(clause());
      } else if (kind < 10) {
        enterLine(spoilt(random.nextBoolean() ? clause() : factOrMark()));
      } else if (kind == 10) {
        learn();
      } else {
        askOne();
      }
    }
  }

  /** Marks come from what a program gives, so that there is something to find. */
  private void learningRun() {
    int facts = 3 + random.nextInt(12);
    for (int i = 0; i < facts; i++) {
      enterLine("ab".charAt(random.nextInt(2)) + Check.pair(random.nextInt(16)));
    }
    List<List<List<Integer>>> all = Model.learnable();
    List<List<Integer>> hidden = all.get(random.nextInt(all.size()));
    for (List<Integer> body : hidden) {
      String line = "t(X,Y):-";
      for (int code : body) {
        line += (line.endsWith(")") ? "," : "") + Model.written(code);
      }
      enterLine(line);
    }
    int marks = 4 + random.nextInt(10);
    for (int i = 0; i < marks; i++) {
      int pair = random.nextInt(16);
      boolean given = model.given(pair / 4, pair % 4) != 0;
      boolean untrue = random.nextInt(40) == 0;
      enterLine((given != untrue ? "+t" : "-t") + Check.pair(pair));
    }
    learn();
    compareAll();
  }

  private void learn() {
    int size = model.learn();
    due("learn()", size, learner.learn());
    learntOfSize[size]++;
    if (size > 0) {
      learntWithClauses[model.clauses()]++;
    }
    due("text after learn()", model.text(), Check.text(learner));
  }

  private void compareAll() {
    due("rounds()", model.rounds(), learner.rounds());
    due("fits()", model.fits(), learner.fits());
    for (int pair = 0; pair < 16; pair++) {
      int x = pair / 4;
      int y = pair % 4;
      due("given" + Check.pair(pair), model.given(x, y), learner.given(x, y));
      due("mark" + Check.pair(pair), model.mark(x, y), learner.mark(x, y));
      due("holds 0 " + Check.pair(pair), model.holds(0, x, y), learner.holds(0, x, y));
      due("holds 1 " + Check.pair(pair), model.holds(1, x, y), learner.holds(1, x, y));
    }
    for (int i = 0; i < 4; i++) {
      due("subsumes", model.subsumes(i / 2, i % 2), learner.subsumes(i / 2, i % 2));
    }
  }

  private void askOne() {
    int i = number();
    int j = number();
    int k = number();
    switch (random.nextInt(14)) {
      case 0: due("back()", model.back(), learner.back()); break;
      case 1: due("facts", model.facts(i), learner.facts(i)); break;
      case 2: due("holds", model.holds(i, j, k), learner.holds(i, j, k)); break;
      case 3: due("mark", model.mark(i, j), learner.mark(i, j)); break;
      case 4: due("drop", model.drop(i), learner.drop(i)); break;
      case 5: due("clauses()", model.clauses(), learner.clauses()); break;
      case 6: due("literals", model.literals(i), learner.literals(i)); break;
      case 7: due("literal", model.literal(i, j), learner.literal(i, j)); break;
      case 8: due("letter", model.letter(i * j + k), learner.letter(i * j + k)); break;
      case 9: due("subsumes", model.subsumes(i, j), learner.subsumes(i, j)); break;
      case 10: due("given", model.given(i, j), learner.given(i, j)); break;
      case 11: due("rounds()", model.rounds(), learner.rounds()); break;
      case 12: due("fits()", model.fits(), learner.fits()); break;
      default: key((char) random.nextInt(random.nextBoolean() ? 140 : 65536)); break;
    }
  }

  private int number() {
    int[] far = {-1, 4, 5, 7, 31, 32, -32, Integer.MIN_VALUE, Integer.MAX_VALUE};
    return random.nextInt(8) == 0 ? far[random.nextInt(far.length)] : random.nextInt(4) & random.nextInt(4);
  }

  private void key(char c) {
    due("key " + (int) c, model.key(c), learner.key(c));
  }

  private void enterLine(String line) {
    for (char c : line.toCharArray()) {
      key(c);
    }
    due("enter of " + line, model.enter(), learner.enter());
  }

  private String factOrMark() {
    String[] starts = {"a", "b", "a", "b", "~a", "~b", "+t", "-t", "~t"};
    return starts[random.nextInt(starts.length)] + Check.pair(random.nextInt(16));
  }

  private String clause() {
    String line = "t(X,Y):-" + Model.written(random.nextInt(27));
    int more = random.nextInt(3);
    for (int i = 0; i < more; i++) {
      line += "," + Model.written(random.nextInt(27));
    }
    return line;
  }

  private String spoilt(String line) {
    int at = random.nextInt(line.length() + 1);
    String sign = "" + SIGNS.charAt(random.nextInt(SIGNS.length()));
    switch (random.nextInt(3)) {
      case 0: return line.substring(0, at);
      case 1: return line.substring(0, at) + sign + line.substring(at);
      default: return line.substring(0, at) + sign + line.substring(Math.min(at + 1, line.length()));
    }
  }

  private void due(String call, long want, long got) {
    Check.due(run + call, want, got);
  }

  private void due(String call, boolean want, boolean got) {
    due(call, want ? 1 : 0, got ? 1 : 0);
  }

  private void due(String call, String want, String got) {
    Check.due(run + call, want, got);
  }
}

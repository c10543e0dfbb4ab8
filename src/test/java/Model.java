import java.util.ArrayList;
import java.util.Collections;
import java.util.List;
import java.util.Set;
import java.util.TreeMap;
import java.util.TreeSet;

/** The document once more, as slow and as plain as it can be said: sets of texts, tried one by one. */
final class Model {
  private static final String VARIABLES = "XYZ";
  private static final TreeSet<String> STATEMENTS = allStatements();
  private static final List<List<List<Integer>>> LEARNABLE = allLearnable();

  private final Set<String> facts = new TreeSet<>();
  private final TreeMap<String, Integer> marks = new TreeMap<>();
  private List<List<Integer>> program = new ArrayList<>();
  private String line = "";

  boolean key(char c) {
    if (c < 32 || c > 126 || line.length() == 32) {
      return false;
    }
    line += c;
    return true;
  }

  boolean back() {
    if (line.isEmpty()) {
      return false;
    }
    line = line.substring(0, line.length() - 1);
    return true;
  }

  int enter() {
    String entered = line;
    line = "";
    if (STATEMENTS.contains(entered)) {
      return entered.startsWith("t") ? enterClause(entered) : enterFactOrMark(entered);
    }
    for (int p = 0; p < entered.length(); p++) {
      String start = entered.substring(0, p + 1);
      String next = STATEMENTS.ceiling(start);
      if (next == null || !next.startsWith(start)) {
        return -1 - p;
      }
    }
    return -1 - entered.length();
  }

  int facts(int relation) {
    if (relation != 0 && relation != 1) {
      return -1;
    }
    return (int) facts.stream().filter(fact -> fact.charAt(0) == "ab".charAt(relation)).count();
  }

  boolean holds(int relation, int x, int y) {
    return (relation == 0 || relation == 1) && facts.contains("ab".charAt(relation) + atom(x, y));
  }

  int mark(int x, int y) {
    return marks.getOrDefault(atom(x, y), 0);
  }

  boolean drop(int clause) {
    if (!isClause(clause)) {
      return false;
    }
    program.remove(clause);
    return true;
  }

  int clauses() {
    return program.size();
  }

  int literals(int clause) {
    return isClause(clause) ? program.get(clause).size() : -1;
  }

  int literal(int clause, int k) {
    return isClause(clause) && k >= 0 && k < literals(clause) ? program.get(clause).get(k) : -1;
  }

  int letter(int k) {
    String text = text();
    return k >= 0 && k < text.length() ? text.charAt(k) : -1;
  }

  String text() {
    List<String> clauses = new ArrayList<>();
    for (List<Integer> body : program) {
      List<String> literals = new ArrayList<>();
      for (int code : body) {
        literals.add(written(code));
      }
      clauses.add("t(X,Y):-" + String.join(",", literals));
    }
    return String.join(";", clauses);
  }

  boolean subsumes(int i, int j) {
    if (!isClause(i) || !isClause(j)) {
      return false;
    }
    Set<String> special = new TreeSet<>();
    for (int code : program.get(j)) {
      special.add(written(code));
    }
    for (char variable : VARIABLES.toCharArray()) {
      boolean all = true;
      for (int code : program.get(i)) {
        all &= special.contains(written(code).replace('Z', variable));
      }
      if (all) {
        return true;
      }
    }
    return false;
  }

  int given(int x, int y) {
    return give(program).getOrDefault(atom(x, y), 0);
  }

  int rounds() {
    int most = 0;
    for (int round : give(program).values()) {
      most = Math.max(most, round);
    }
    return most;
  }

  boolean fits() {
    return fitting(program);
  }

  int learn() {
    for (List<List<Integer>> candidate : LEARNABLE) {
      if (fitting(candidate)) {
        program = new ArrayList<>(candidate);
        return size(candidate);
      }
    }
    return 0;
  }

  static String written(int code) {
    return "abt".charAt(code / 9) + "(" + VARIABLES.charAt(code / 3 % 3) + ","
        + VARIABLES.charAt(code % 3) + ")";
  }

  static List<List<List<Integer>>> learnable() {
    return LEARNABLE;
  }

  private boolean isClause(int clause) {
    return clause >= 0 && clause < program.size();
  }

  private static String atom(int x, int y) {
    return "(" + x + "," + y + ")";
  }

  private int enterFactOrMark(String statement) {
    String rest = statement.substring(1);
    String pair = statement.substring(statement.indexOf('('));
    switch (statement.charAt(0)) {
      case '+':
        return Integer.valueOf(1).equals(marks.put(pair, 1)) ? 0 : 1;
      case '-':
        return Integer.valueOf(-1).equals(marks.put(pair, -1)) ? 0 : 1;
      case '~':
        boolean gone = rest.startsWith("t") ? marks.remove(pair) != null : facts.remove(rest);
        return gone ? 1 : 0;
      default:
        return facts.add(statement) ? 1 : 0;
    }
  }

  private int enterClause(String statement) {
    List<Integer> body = new ArrayList<>();
    for (String literal : statement.substring(8).split("(?<=\\)),")) {
      int code = 0;
      while (!written(code).equals(literal)) {
        code++;
      }
      body.add(code);
    }
    Collections.sort(body);
    if (new TreeSet<>(body).size() < body.size()) {
      return -100;
    }
    if (!hasBoth(body)) {
      return -101;
    }
    if (program.contains(body)) {
      return -102;
    }
    if (program.size() == 2) {
      return -103;
    }
    program.add(body);
    return 9 + program.size();
  }

  private static boolean hasBoth(List<Integer> body) {
    String all = "";
    for (int code : body) {
      all += written(code);
    }
    return all.contains("X") && all.contains("Y");
  }

  private TreeMap<String, Integer> give(List<List<Integer>> clauses) {
    TreeMap<String, Integer> given = new TreeMap<>();
    for (int round = 1; ; round++) {
      Set<String> now = new TreeSet<>();
      for (List<Integer> body : clauses) {
        for (int choice = 0; choice < 64; choice++) {
          int[] values = {choice / 16, choice / 4 % 4, choice % 4};
          String pair = atom(values[0], values[1]);
          if (!given.containsKey(pair) && allHold(body, values, given)) {
            now.add(pair);
          }
        }
      }
      if (now.isEmpty()) {
        return given;
      }
      for (String pair : now) {
        given.put(pair, round);
      }
    }
  }

  private boolean allHold(List<Integer> body, int[] values, TreeMap<String, Integer> given) {
    for (int code : body) {
      int u = values[code / 3 % 3];
      int v = values[code % 3];
      boolean there = code >= 18 ? given.containsKey(atom(u, v)) : holds(code / 9, u, v);
      if (!there) {
        return false;
      }
    }
    return true;
  }

  private boolean fitting(List<List<Integer>> clauses) {
    Set<String> given = give(clauses).keySet();
    for (String pair : marks.keySet()) {
      if (given.contains(pair) != (marks.get(pair) == 1)) {
        return false;
      }
    }
    return true;
  }

  private static TreeSet<String> allStatements() {
    TreeSet<String> all = new TreeSet<>();
    for (int x = 0; x < 4; x++) {
      for (int y = 0; y < 4; y++) {
        for (String start : new String[] {"a", "b", "~a", "~b", "+t", "-t", "~t"}) {
          all.add(start + atom(x, y));
        }
      }
    }
    for (int i = 0; i < 27; i++) {
      String one = "t(X,Y):-" + written(i);
      all.add(one);
      for (int j = 0; j < 27; j++) {
        String two = one + "," + written(j);
        all.add(two);
        for (int k = 0; k < 27; k++) {
          all.add(two + "," + written(k));
        }
      }
    }
    return all;
  }

  /** All programs of size 1 to 3, made in any order and then sorted as the document says. */
  private static List<List<List<Integer>>> allLearnable() {
    List<List<Integer>> bodies = new ArrayList<>();
    for (int set = 1; set < 1 << 27; set = set + 1) {
      if (Integer.bitCount(set) > 3) {
        // No number below the next one that lacks the lowest bit has fewer bits.
        set += Integer.lowestOneBit(set) - 1;
        continue;
      }
      List<Integer> body = new ArrayList<>();
      for (int code = 0; code < 27; code++) {
        if ((set >> code & 1) != 0) {
          body.add(code);
        }
      }
      if (hasBoth(body)) {
        bodies.add(body);
      }
    }
    List<List<List<Integer>>> all = new ArrayList<>();
    for (List<Integer> body : bodies) {
      all.add(List.of(body));
      for (List<Integer> other : bodies) {
        boolean inOrder = body.size() < other.size()
            || body.size() == other.size() && compare(body, other) < 0;
        if (body.size() + other.size() <= 3 && inOrder) {
          all.add(List.of(body, other));
        }
      }
    }
    all.sort((p, q) -> {
      int bySize = Integer.compare(size(p), size(q));
      int byClauses = bySize != 0 ? bySize : Integer.compare(p.size(), q.size());
      return byClauses != 0 ? byClauses : compare(codes(p), codes(q));
    });
    return all;
  }

  private static int size(List<List<Integer>> clauses) {
    return codes(clauses).size();
  }

  private static List<Integer> codes(List<List<Integer>> clauses) {
    List<Integer> codes = new ArrayList<>();
    for (List<Integer> body : clauses) {
      codes.addAll(body);
    }
    return codes;
  }

  private static int compare(List<Integer> codes, List<Integer> others) {
    for (int i = 0; i < codes.size() && i < others.size(); i++) {
      int order = Integer.compare(codes.get(i), others.get(i));
      if (order != 0) {
        return order;
      }
    }
    return 0;
  }
}

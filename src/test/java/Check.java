/** Counts the calls whose answer is not the one that is due, and types lines. */
final class Check {
  private static int wrong = 0;
  private static int checks = 0;

  private Check() {}

  static void due(String call, long want, long got) {
    checks++;
    if (got != want) {
      wrong++;
      System.out.println(call + " answered " + got + ", due is " + want);
    }
  }

  static void due(String call, boolean want, boolean got) {
    due(call, want ? 1 : 0, got ? 1 : 0);
  }

  static void due(String call, String want, String got) {
    checks++;
    if (!got.equals(want)) {
      wrong++;
      System.out.println(call + " answered " + got + ", due is " + want);
    }
  }

  /** Types the text, every key of which is taken. */
  static void type(Counted x, String text) {
    for (int i = 0; i < text.length(); i++) {
      due("key " + text.charAt(i) + " of " + text, true, x.key(text.charAt(i)));
    }
  }

  static int enter(Counted x, String text) {
    type(x, text);
    return x.enter();
  }

  static void enters(Counted x, int want, String... texts) {
    for (String text : texts) {
      due("enter of " + text, want, enter(x, text));
    }
  }

  /** Each line on a new object of its own. */
  static void newEnters(int want, String... texts) {
    for (String text : texts) {
      enters(new Counted(), want, text);
    }
  }

  /** A new object into which these lines have been entered, each of which changed something. */
  static Counted with(String... lines) {
    Counted x = new Counted();
    for (String line : lines) {
      due(line + " is taken", true, enter(x, line) > 0);
    }
    return x;
  }

  /** Enters a line for each of the sixteen pairs; the start is all that stands before the pair. */
  static void entersAllPairs(Counted x, int want, String start) {
    for (int pair = 0; pair < 16; pair++) {
      enters(x, want, start + pair(pair));
    }
  }

  /** Pair 0 is (0,0), pair 1 is (0,1), pair 15 is (3,3). */
  static String pair(int pair) {
    return "(" + pair / 4 + "," + pair % 4 + ")";
  }

  /** The program's text, read until there is no letter. */
  static String text(Counted x) {
    StringBuilder text = new StringBuilder();
    int letter = x.letter(0);
    for (int k = 1; letter != -1 && k < 100; k++) {
      text.append((char) letter);
      letter = x.letter(k);
    }
    return text.toString();
  }

  /** All sixteen rounds of given, in the order of the pairs. */
  static String given(Counted x) {
    StringBuilder all = new StringBuilder();
    for (int pair = 0; pair < 16; pair++) {
      all.append(x.given(pair / 4, pair % 4)).append(pair % 4 == 3 ? "/" : " ");
    }
    return all.toString();
  }

  /** All that an object holds beside its line: facts, marks and program. */
  static String state(Counted x) {
    StringBuilder all = new StringBuilder();
    for (int pair = 0; pair < 16; pair++) {
      for (int relation = 0; relation < 2; relation++) {
        if (x.holds(relation, pair / 4, pair % 4)) {
          all.append("ab".charAt(relation)).append(pair(pair)).append(' ');
        }
      }
      int mark = x.mark(pair / 4, pair % 4);
      if (mark != 0) {
        all.append(mark > 0 ? "+t" : "-t").append(pair(pair)).append(' ');
      }
    }
    return all.append(text(x)).toString();
  }

  static void end() {
    System.out.println(checks + " checks, " + wrong + " wrong");
    if (wrong != 0 || checks == 0) {
      System.exit(1);
    }
  }
}

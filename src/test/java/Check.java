/** Counts the calls whose answer is not the one that is due, and types lines. */
final class Check {
  private static int wrong = 0;
  private static int checks = 0;

  private Check() {}

  static void due(String call, long want, long got) {
    checks++;
    if (got != want) {
      wrong++;
      System.out.println(call + " answered " + got + ", due is " + want);
    }
  }

  static void due(String call, boolean want, boolean got) {
    due(call, want ? 1 : 0, got ? 1 : 0);
  }

  static void due(String call, String want, String got) {
    checks++;
    if (!got.equals(want)) {
      wrong++;
      System.out.println(call + " answered " + got + ", due is " + want);
    }
  }

  /** Types the text, every key of which is taken. */
  static void type(HornLearner x, String text) {
    for (int i = 0; i < text.length(); i++) {
      due("key " + text.charAt(i) + " of " + text, true, x.key(text.charAt(i)));
    }
  }

  static int enter(HornLearner x, String text) {
    type(x, text);
    return x.enter();
  }

  static void enters(HornLearner x, int want, String... texts) {
    for (String text : texts) {
      due("enter of " + text, want, enter(x, text));
    }
  }

  /** The program's text, read until there is no letter. */
  static String text(HornLearner x) {
    StringBuilder text = new StringBuilder();
    for (int k = 0; k < 100 && x.letter(k) != -1; k++) {
      text.append((char) x.letter(k));
    }
    return text.toString();
  }

  /** All sixteen rounds of given, in the order of the pairs. */
  static String given(HornLearner x) {
    StringBuilder all = new StringBuilder();
    for (int pair = 0; pair < 16; pair++) {
      all.append(x.given(pair / 4, pair % 4)).append(pair % 4 == 3 ? "/" : " ");
    }
    return all.toString();
  }

  static void end() {
    System.out.println(checks + " checks, " + wrong + " wrong");
    if (wrong != 0 || checks == 0) {
      System.exit(1);
    }
  }
}

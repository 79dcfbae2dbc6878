/** What the tests share: compares answers with what is due, and ends a test with its exit code. */
final class Due {
  interface Call {
    long answer();
  }

  private static int wrong = 0;
  private static String sentence = "";

  private Due() {}

  /** The document's words that the next answers are held against; told with every wrong one. */
  static void says(String words) {
    sentence = words + ": ";
  }

  static void equal(String call, long got, long want) {
    if (got != want) {
      report(call, Long.toString(got), Long.toString(want));
    }
  }

  static void text(String call, String got, String want) {
    if (!got.equals(want)) {
      report(call, got, want);
    }
  }

  static void holds(String what, boolean really) {
    text(what, Boolean.toString(really), "true");
  }

  /** Arguments that are wrong by themselves. */
  static void bad(String call, Call made) {
    text(call, outcome(made), "throws.IllegalArgumentException");
  }

  /** Arguments that are wrong only by what the roots are. */
  static void state(String call, Call made) {
    text(call, outcome(made), "throws.IllegalStateException");
  }

  static String outcome(Call made) {
    try {
      return Long.toString(made.answer());
    } catch (RuntimeException e) {
      return "throws." + e.getClass().getSimpleName();
    }
  }

  static void finish() {
    System.out.println(wrong == 0 ? "all answers are as due" : wrong + " answers are not as due");
    if (wrong != 0) {
      System.exit(1);
    }
  }

  private static void report(String call, String got, String want) {
    wrong++;
    System.out.println(sentence + call + " answered " + got + ", due is " + want);
  }
}

/** Compares answers with those that are due, and ends the test. */
final class Due {
  private static final int MOST_PRINTED = 50;

  private static long wrong = 0;
  private static String about = "";

  private Due() {
  }

  /** Names the sentence of the document that the next answers are held to. */
  static void sentence(String words) {
    about = "\"" + words + "\": ";
  }

  static void is(String call, long got, long want) {
    if (got == want) {
      return;
    }
    wrong++;
    if (wrong <= MOST_PRINTED) {
      System.out.println(about + call + " answered " + got + ", due is " + want);
    }
  }

  static void holds(String what, boolean fact) {
    is(what, fact ? 1 : 0, 1);
  }

  static void end() {
    System.out.println(wrong == 0 ? "all answers are as due" : wrong + " answers are not as due");
    if (wrong != 0) {
      System.exit(1);
    }
  }
}

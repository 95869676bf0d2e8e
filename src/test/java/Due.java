/** What the tests of edges have in common: the promise that is asked, and answers that are not due. */
final class Due {
  private static String asking = "";
  private static int asked = 0;
  private static int wrong = 0;

  private Due() { }

  /** What comes next is told by the promise's number, 0 for 'What it is', and the sentence. */
  static void promise(int number, String sentence) {
    asking = (number == 0 ? "what it is, " : "promise " + number + ", ") + sentence;
  }

  static void due(String what, int got, int want) {
    asked++;
    if (got == want) return;
    wrong++;
    System.out.println(asking + ": " + what + " answered " + got + ", due is " + want);
  }

  /** Numbers that are none of 0 .. n - 1, the nearest ones and the farthest. */
  static int[] outside(int n) {
    return new int[] {-1, n, -2, n + 1, Integer.MIN_VALUE, Integer.MAX_VALUE};
  }

  /** What is no name and not NONE either; a shift by 32 or 48 would wrap around to a name. */
  static int[] noNames() {
    return new int[] {-2, 16, -16, 17, 31, 32, 47, 48, Integer.MIN_VALUE, Integer.MAX_VALUE};
  }

  static void end() {
    System.out.println(wrong == 0
        ? "all " + asked + " answers are as due" : wrong + " answers are not as due");
    if (wrong != 0) System.exit(1);
  }
}

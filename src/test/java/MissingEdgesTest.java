/** Edges of promises 16 and 17: the missing values of a match, and what was told of them. */
public final class MissingEdgesTest {
  private static final int NONE = Forge.NONE;
  private static final int FULL = Forge.FULL;
  private static final int MIN = Integer.MIN_VALUE;
  private static final int MAX = Integer.MAX_VALUE;

  private static void due(String what, int got, int want) {
    Due.due(what, got, want);
  }

  private static void missingIs(Forge x, int m, int... want) {
    due("missing(" + m + ")", x.missing(m), want.length);
    x.partsAre(want);
  }

  private static void missingOfWhat() {
    Due.promise(16, "NONE when there is none such; 0 when none are missing");
    Forge x = new Forge();
    for (int m : Due.outside(0)) due("missing(" + m + ")", x.missing(m), NONE);
    x.match(1, 0, 0, 0);
    x.match(3, 0, 0, 0);
    for (int m : Due.outside(2)) due("missing(" + m + ")", x.missing(m), NONE);
    missingIs(x, 0, 0);
    missingIs(x, 1, 0, 0, 0);
    x.row(0, x.any(0, NONE), 0, 0);
    missingIs(x, 0);
    missingIs(x, 1, 0, 0, 0);
    x.countsStand();
  }

  private static void withoutRows() {
    Due.promise(16, "without rows all is plain, each place's type in order");
    Forge x = new Forge();
    for (int t = 1; t <= 3; t++) x.type();
    x.maker(1, 1, 3, 0, 0);
    x.maker(1, 2, 0, 2, 0);
    x.maker(2, 3, 0, 3, 0);
    x.maker(3, 1, 3, 0, 0);
    x.maker(3, 2, 0, 0, 0);
    x.maker(3, 0, 0, 0, 0);
    x.match(3, 1, 2, 3);
    x.match(3, 3, 0, 1);
    missingIs(x, 0, 0, 2, 0, 0, 2, 0, 2);
    missingIs(x, 1, 2, 0, 0, 2);
  }

  private static void plainValues() {
    Due.promise(16, "plain: the smallest one by size, of those by the least maker, of numbers 0");
    Forge x = new Forge();
    for (int t = 1; t <= 4; t++) x.type();
    x.maker(1, 2, 0, 0, 0);
    x.maker(1, 1, 0, 0, 0);
    x.maker(1, 1, 2, 0, 0);
    x.maker(2, 1, 2, 0, 0);
    x.maker(2, 0, 0, 0, 0);
    x.maker(2, 0, 0, 0, 0);
    x.maker(3, 3, 1, 2, 0);
    x.maker(3, 2, 1, 1, 0);
    x.maker(3, 1, 3, 0, 0);
    x.maker(4, 1, 3, 0, 0);
    x.match(1, 1, 0, 0);
    x.match(1, 2, 0, 0);
    x.match(1, 3, 0, 0);
    x.match(1, 4, 0, 0);
    due("of size 2, by makers 1 and 2", x.plain(1), 2);
    missingIs(x, 0, 1, 0);
    due("of size 1, by makers 1 and 2", x.plain(2), 1);
    missingIs(x, 1, 1);
    due("of size 5, by makers 0 and 1", x.plain(3), 5);
    missingIs(x, 2, 0, 1, 0, 1, 0);
    missingIs(x, 3, 0, 0, 1, 0, 1, 0);
  }

  private static void leastNumbers() {
    Due.promise(16, "for others the least number from 0 on that was not there");
    Forge x = new Forge();
    x.match(1, 0, 0, 0);
    int[] numbers = {MIN, -1, 1, MAX, 2, 0, 4, 3, 5, 5, 7, 6};
    int[] least = {0, 0, 0, 0, 0, 3, 3, 5, 6, 6, 6, 8};
    for (int i = 0; i < numbers.length; i++) {
      x.row(0, x.exactly(numbers[i]), 0, 0);
      missingIs(x, 0, least[i]);
    }
    x.match(1, 0, 0, 0);
    int p = x.oneOf(0, 13);
    x.row(1, p, 0, 0);
    missingIs(x, 1, 13);
    for (int i = 23; i > 13; i--) {
      x.row(1, x.exactly(i), 0, 0);
      missingIs(x, 1, 13);
    }
    x.row(1, x.exactly(13), 0, 0);
    missingIs(x, 1, 24);
  }

  /** Each maker has another plain part; with all but one in rows, that one is missing. */
  private static void leastMakers() {
    Due.promise(16, "for others the least maker that was not there");
    for (int left = 0; left < 6; left++) {
      Forge x = new Forge();
      x.type();
      for (int k = 0; k < 6; k++) x.maker(1, k == 5 ? 0 : k % 3 + 1, 0, 0, 0);
      int any = x.any(0, NONE);
      x.match(1, 1, 0, 0);
      for (int k = 5; k >= 0; k--) {
        if (k != left) x.row(0, x.made(1, k, any, any, any), 0, 0);
      }
      missingIs(x, 0, left == 5 ? new int[] {5} : java.util.Arrays.copyOf(new int[] {left}, left % 3 + 2));
      x.row(0, x.made(1, left, any, any, any), 0, 0);
      missingIs(x, 0);
    }
    Forge y = new Forge();
    y.type();
    y.maker(1, 1, 0, 0, 0);
    y.maker(1, 0, 0, 0, 0);
    y.maker(1, 0, 0, 0, 0);
    y.match(1, 1, 0, 0);
    y.row(0, y.made(1, 1, 0, 0, 0), 0, 0);
    missingIs(y, 0, 0, 0);
  }

  /** The first failure is behind the least number, not behind the first row's. */
  private static void leastFirst() {
    Due.promise(16, "the first failure: the least first");
    Forge x = new Forge();
    x.match(2, 0, 0, 0);
    int seven = x.exactly(7);
    x.row(0, x.exactly(5), seven, 0);
    missingIs(x, 0, 5, 0);
    x.row(0, x.exactly(-3), x.exactly(0), 0);
    missingIs(x, 0, -3, 1);
    x.row(0, x.exactly(MAX), seven, 0);
    missingIs(x, 0, -3, 1);
    x.row(0, x.exactly(MIN), seven, 0);
    missingIs(x, 0, MIN, 0);
    x.row(0, x.exactly(MIN), x.any(0, NONE), 0);
    missingIs(x, 0, -3, 1);
  }

  private static void othersLast() {
    Due.promise(16, "the first failure: others last");
    Forge x = new Forge();
    x.type();
    for (int k = 0; k < 3; k++) x.maker(1, k == 2 ? 0 : 1, 0, 0, 0);
    x.match(1, 1, 0, 0);
    int any = x.any(0, NONE);
    x.row(0, x.made(1, 1, x.exactly(0), 0, 0), 0, 0);
    missingIs(x, 0, 1, 1);
    x.row(0, x.made(1, 1, any, 0, 0), 0, 0);
    missingIs(x, 0, 0, 0);
    x.row(0, x.made(1, 0, x.exactly(0), 0, 0), 0, 0);
    missingIs(x, 0, 0, 1);
    x.row(0, x.made(1, 0, any, 0, 0), 0, 0);
    missingIs(x, 0, 2);
    x.row(0, x.any(1, NONE), 0, 0);
    missingIs(x, 0);
    Forge y = new Forge();
    y.match(2, 0, 0, 0);
    y.row(0, y.exactly(0), y.any(0, NONE), 0);
    y.row(0, y.exactly(2), y.any(0, NONE), 0);
    missingIs(y, 0, 1, 0);
    y.row(0, y.exactly(2), y.exactly(3), 0);
    missingIs(y, 0, 1, 0);
  }

  private static void behindQuestions() {
    Due.promise(16, "behind a question as if it did not hold, whatever these values are");
    Forge x = new Forge();
    x.match(2, 0, 0, 0);
    x.row(0, x.any(0, 0), x.any(0, 1), 0, 0, 1);
    missingIs(x, 0, 0, 0);
    x.row(0, x.exactly(0), x.exactly(0), 0);
    missingIs(x, 0, 0, 1);
    x.number(0);
    x.number(1);
    due("the first row takes these values", x.run(0, 0, 1, 0), 0);
    x.row(0, x.exactly(0), x.any(0, NONE), 0);
    missingIs(x, 0, 1, 0);
    x.row(0, 0, 1, 0, 1, 0);
    missingIs(x, 0, 1, 0);
    x.row(0, 0, 1, 0);
    missingIs(x, 0);
  }

  /** What was tested deep in one place, what was not, and the place beside it. */
  private static void deepPlaces() {
    Due.promise(16, "each place has what was tested on the way, all else is plain");
    Forge x = Forge.lists();
    int list = x.any(1, NONE);
    int number = x.any(0, NONE);
    int empty = x.made(1, 0, 0, 0, 0);
    x.match(3, 0, 1, 1);
    x.row(0, number, x.made(1, 1, number, x.made(1, 1, x.exactly(0), list, 0), 0), empty);
    missingIs(x, 0, 0, 1, 0, 1, 0, 0, 1, 0, 0);
    x.row(0, number, x.made(1, 1, number, x.made(1, 1, x.exactly(0), list, 0), 0), list);
    missingIs(x, 0, 0, 1, 0, 1, 1, 0, 0);
    x.row(0, number, x.made(1, 1, number, x.made(1, 1, number, list, 0), 0), list);
    missingIs(x, 0, 0, 1, 0, 0, 0);
    x.row(0, number, x.made(1, 1, number, empty, 0), list);
    missingIs(x, 0, 0, 0, 0);
    x.row(0, x.exactly(0), list, list);
    missingIs(x, 0, 1, 0, 0);
    x.row(0, number, list, list);
    missingIs(x, 0);
  }

  private static void tooLarge() {
    Due.promise(16, "FULL when it is too large");
    Forge x = new Forge();
    x.match(1, 0, 0, 0);
    x.match(2, 0, 0, 0);
    int p = x.oneOf(0, 12);
    x.row(0, p, 0, 0);
    x.row(0, p, 0, 0);
    missingIs(x, 0, 12);
    x.row(0, x.exactly(12), 0, 0);
    due("25 rows together", x.missing(0), FULL);
    Due.promise(17, "behind a missing() that was FULL, since the tree is too large");
    x.partsAre(12);
    missingIs(x, 1, 0, 0);
    due("and once more", x.missing(0), FULL);
    x.partsAre(0, 0);
    x.countsStand();
  }

  /** Types of sizes 4, 13, 40, 121, 364, 1093 and 3280. */
  private static Forge largeTypes() {
    Forge x = new Forge();
    for (int t = 1; t <= 7; t++) x.type();
    for (int t = 1; t <= 7; t++) x.maker(t, 3, t - 1, t - 1, t - 1);
    return x;
  }

  private static void manyPlainValues() {
    Due.promise(16, "FULL when they would be more than 4000");
    Forge x = largeTypes();
    x.match(1, 7, 0, 0);
    x.match(3, 6, 6, 6);
    x.match(3, 7, 5, 5);
    x.match(3, 7, 7, 7);
    x.match(2, 7, 6, 0);
    due("3280", x.missing(0), 3280);
    due("the last", x.part(3279), 0);
    due("the one behind it", x.part(3280), NONE);
    due("3279", x.missing(1), 3279);
    due("the last", x.part(3278), 0);
    due("the one behind it", x.part(3279), NONE);
    due("4008", x.missing(2), FULL);
    due("9840", x.missing(3), FULL);
    due("4373", x.missing(4), FULL);
    Due.promise(17, "behind a missing() that was FULL, since they would be too many");
    due("the last", x.part(3278), 0);
    due("the one behind it", x.part(3279), NONE);
  }

  /**
   * Type 6: a list of what has sizes 364 (twice), 121, 40, 13 and 1. One row asks for a list that
   * has so many of each that what is missing has just 4000 numbers, all tested makers with plain
   * values; a number beside it makes them 4001.
   */
  private static Forge fourThousand() {
    Forge x = new Forge();
    for (int t = 1; t <= 6; t++) x.type();
    for (int t = 1; t <= 5; t++) x.maker(t, 3, t - 1, t - 1, t - 1);
    int[] held = {5, 4, 3, 2, 0};
    x.maker(6, 3, 5, 5, 6);
    for (int k = 1; k <= 4; k++) x.maker(6, 2, held[k], 6, 0);
    x.maker(6, 0, 0, 0, 0);
    int p = x.made(6, 4, x.exactly(9), x.any(6, NONE), 0);
    int[] times = {5, 2, 2, 1, 6};
    for (int k = 4; k >= 0; k--) {
      int any = x.any(held[k], NONE);
      for (int i = 0; i < times[k]; i++) {
        p = k == 0 ? x.made(6, 0, any, any, p) : x.made(6, k, any, p, 0);
      }
    }
    x.match(1, 6, 0, 0);
    x.match(2, 6, 0, 0);
    x.match(2, 0, 6, 0);
    x.row(0, p, 0, 0);
    x.row(1, p, x.any(0, NONE), 0);
    x.row(2, x.any(0, NONE), p, 0);
    return x;
  }

  private static void lastOfFourThousand(Forge x) {
    due("part(0)", x.part(0), 0);
    due("part(729)", x.part(729), 0);
    due("part(3645)", x.part(3645), 1);
    due("part(3889)", x.part(3889), 2);
    due("part(3971)", x.part(3971), 3);
    due("part(3985)", x.part(3985), 4);
    due("part(3998)", x.part(3998), 0);
    due("part(3999)", x.part(3999), 5);
    due("part(4000)", x.part(4000), NONE);
  }

  private static void mostMissing() {
    Due.promise(16, "4000 are told, 4001 are not; what was told stays");
    Forge x = fourThousand();
    due("4001, before anything was told", x.missing(1), FULL);
    x.partsAre();
    due("4000", x.missing(0), 4000);
    lastOfFourThousand(x);
    due("4001", x.missing(1), FULL);
    lastOfFourThousand(x);
    due("4001, the number first", x.missing(2), FULL);
    lastOfFourThousand(x);
    due("no such match", x.missing(3), NONE);
    lastOfFourThousand(x);
    due("4000 again", x.missing(0), 4000);
    lastOfFourThousand(x);
    x.row(0, x.any(6, NONE), 0, 0);
    due("none", x.missing(0), 0);
    x.partsAre();
    due("4001, where nothing was told", x.missing(1), FULL);
    x.partsAre();
  }

  private static void partOfWhat() {
    Due.promise(17, "NONE when there is none");
    Forge x = Forge.lists();
    for (int k : Due.outside(0)) due("part(" + k + ") before", x.part(k), NONE);
    due("part(0) before", x.part(0), NONE);
    x.match(2, 1, 0, 0);
    x.row(0, x.made(1, 1, x.any(0, NONE), x.any(1, NONE), 0), x.exactly(3), 0);
    due("missing(0)", x.missing(0), 4);
    due("part(0)", x.part(0), 1);
    due("part(3)", x.part(3), 0);
    for (int k : Due.outside(4)) due("part(" + k + ")", x.part(k), NONE);
    x.partsAre(1, 0, 0, 0);
    x.countsStand();
  }

  private static void partBehindNone() {
    Due.promise(17, "behind a missing() that was NONE: of the latest that was not");
    Forge x = new Forge();
    x.match(1, 0, 0, 0);
    x.match(2, 0, 0, 0);
    x.row(0, x.exactly(0), 0, 0);
    x.row(1, x.exactly(0), x.any(0, NONE), 0);
    for (int m : Due.outside(2)) {
      due("missing(" + m + ") before", x.missing(m), NONE);
      due("part(0)", x.part(0), NONE);
    }
    missingIs(x, 1, 1, 0);
    for (int m : Due.outside(2)) {
      due("missing(" + m + ")", x.missing(m), NONE);
      x.partsAre(1, 0);
    }
    missingIs(x, 0, 1);
    due("missing(2)", x.missing(2), NONE);
    x.partsAre(1);
    x.row(0, x.any(0, NONE), 0, 0);
    missingIs(x, 0);
    due("missing(2)", x.missing(2), NONE);
    x.partsAre();
  }

  private static void partStays() {
    Due.promise(17, "other calls leave what was told");
    Forge x = new Forge();
    x.match(2, 0, 0, 0);
    x.row(0, x.exactly(0), x.any(0, NONE), 0);
    missingIs(x, 0, 1, 0);
    due("a row that takes what was told", x.row(0, x.any(0, 0), x.any(0, 1), 0), 1);
    x.number(1);
    due("a run", x.run(0, 0, 0, 0), 1);
    due("a tree", x.tree(0, 3), 0);
    due("a match", x.match(1, 0, 0, 0), 1);
    due("check()", x.check(), 1);
    due("a run that is NONE", x.run(2, 0, 0, 0), NONE);
    x.partsAre(1, 0);
    int p = x.oneOf(0, 13);
    x.match(1, 0, 0, 0);
    x.row(2, p, 0, 0);
    x.row(2, p, 0, 0);
    due("a run that is FULL", x.run(2, 0, 0, 0), FULL);
    due("a tree that is FULL", x.tree(2, 0), FULL);
    x.partsAre(1, 0);
    missingIs(x, 1, 0);
    missingIs(x, 0);
  }

  public static void main(String[] args) {
    missingOfWhat();
    withoutRows();
    plainValues();
    leastNumbers();
    leastMakers();
    leastFirst();
    othersLast();
    behindQuestions();
    deepPlaces();
    tooLarge();
    manyPlainValues();
    mostMissing();
    partOfWhat();
    partBehindNone();
    partStays();
    Due.end();
  }
}

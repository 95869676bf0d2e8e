/** Edges of promise 15, and of the tree as 'Terms' tells it: what it counts, and when it is too large. */
public final class TreeEdgesTest {
  private static final int NONE = Forge.NONE;
  private static final int FULL = Forge.FULL;
  private static final int MIN = Integer.MIN_VALUE;
  private static final int MAX = Integer.MAX_VALUE;

  private static void due(String what, int got, int want) {
    Due.due(what, got, want);
  }

  private static void treeOfWhat() {
    Due.promise(15, "NONE when there is none such");
    Forge x = new Forge();
    x.match(1, 0, 0, 0);
    x.match(1, 0, 0, 0);
    x.row(1, x.exactly(4), 0, 0);
    for (int what = 0; what <= 4; what++) {
      for (int m : Due.outside(2)) due("tree(" + m + ", " + what + ")", x.tree(m, what), NONE);
    }
    for (int what : Due.outside(5)) {
      due("tree(0, " + what + ")", x.tree(0, what), NONE);
      due("tree(1, " + what + ")", x.tree(1, what), NONE);
    }
    x.treeIs(0, 0, 0, 0, 1, 0);
    x.treeIs(1, 1, 0, 1, 1, 1);
    x.countsStand();
  }

  private static void treeOfWhatWhenTooLarge() {
    Due.promise(15, "FULL when it is too large");
    Forge x = new Forge();
    x.match(1, 0, 0, 0);
    x.match(1, 0, 0, 0);
    int p = x.oneOf(0, 13);
    x.row(0, p, 0, 0);
    x.row(0, p, 0, 0);
    x.treeIsFull(0);
    for (int what : Due.outside(5)) due("tree(0, " + what + ")", x.tree(0, what), NONE);
    for (int m : Due.outside(2)) due("tree(" + m + ", 0)", x.tree(m, 0), NONE);
    x.treeIs(1, 0, 0, 0, 1, 0);
    due("a row may still come", x.row(0, x.any(0, NONE), 0, 0), 2);
    x.treeIsFull(0);
    x.countsStand();
  }

  private static void ends() {
    Due.promise(15, "no rows: a failure; only ANY: taken, or with a guard a question");
    Forge x = new Forge();
    x.match(2, 0, 0, 0);
    x.treeIs(0, 0, 0, 0, 1, 0);
    due("a guard", x.row(0, x.any(0, 0), x.any(0, 1), 0, 0, 1), 0);
    x.treeIs(0, 0, 1, 0, 1, 1);
    due("another guard", x.row(0, 0, 1, 0, 1, 0), 1);
    x.treeIs(0, 0, 2, 0, 1, 3);
    due("a row of names", x.row(0, 0, 1, 0), 2);
    x.treeIs(0, 0, 2, 1, 0, 7);
    due("a row behind it is not needed", x.row(0, 0, 1, 0), 3);
    x.treeIs(0, 0, 2, 1, 0, 7);
    due("nor one with a guard", x.row(0, 0, 1, 0, 0, 1), 4);
    due("nor one with a test", x.row(0, x.exactly(1), 1, 0), 5);
    x.treeIs(0, 0, 2, 1, 0, 7);
  }

  /** One maker after the other stands in a row: with the last of them there are no others. */
  private static void othersOfMakers() {
    Due.promise(15, "others, if the type has other makers");
    for (int makers = 1; makers <= 6; makers++) {
      Forge x = new Forge();
      x.type();
      for (int k = 0; k < makers; k++) x.maker(1, 0, 0, 0, 0);
      x.match(1, 1, 0, 0);
      for (int k = makers - 1; k >= 0; k--) {
        x.row(0, x.made(1, k, 0, 0, 0), 0, 0);
        x.treeIs(0, 1, 0, makers - k, k == 0 ? 0 : 1, (1 << makers - k) - 1);
      }
    }
  }

  private static void othersOfNumbers() {
    Due.promise(15, "others, if it is a number");
    Forge x = new Forge();
    x.match(1, 0, 0, 0);
    int[] numbers = {MAX, MIN, 0, 0, -1};
    int[] taken = {1, 2, 3, 3, 4};
    int[] needed = {1, 3, 7, 7, 23};
    for (int i = 0; i < numbers.length; i++) {
      x.row(0, x.exactly(numbers[i]), 0, 0);
      x.treeIs(0, 1, 0, taken[i], 1, needed[i]);
    }
    x.row(0, x.any(0, NONE), 0, 0);
    x.treeIs(0, 1, 0, 5, 0, 55);
  }

  private static void neededRows() {
    Due.promise(15, "bits of the rows that are needed, up to the twelfth");
    Forge x = new Forge();
    x.match(1, 0, 0, 0);
    for (int r = 0; r < 11; r++) x.row(0, x.exactly(r / 2), 0, 0);
    due("every second one", x.tree(0, 4), 0b10101010101);
    x.row(0, x.any(0, NONE), 0, 0);
    due("and the twelfth", x.tree(0, 4), 0b110101010101);
    x.match(1, 0, 0, 0);
    for (int r = 0; r < 12; r++) x.row(1, x.exactly(11 - r), 0, 0);
    due("all", x.tree(1, 4), 0b111111111111);
    due("the other one still", x.tree(0, 4), 0b110101010101);
    x.number(12);
    due("a value that no row of the second takes", x.run(1, 0, 0, 0), NONE);
    due("check()", x.check(), 1);
  }

  private static void firstPlaceThatCounts() {
    Due.promise(15, "the first place at which the first row has not ANY");
    Forge x = new Forge();
    x.match(3, 0, 0, 0);
    int any = x.any(0, NONE);
    int one = x.exactly(1);
    x.row(0, any, any, one);
    x.row(0, one, any, any);
    x.treeIs(0, 2, 0, 2, 1, 3);
    x.number(1);
    x.number(2);
    due("the third place alone", x.run(0, 1, 1, 0), 0);
    due("one test", x.took(16), 1);
    due("the first place next", x.run(0, 0, 1, 1), 1);
    due("two tests", x.took(16), 2);
    x.match(3, 0, 0, 0);
    x.row(1, any, one, one);
    due("the second place first", x.run(1, 0, 1, 0), NONE);
    due("one test", x.took(16), 1);
    due("then the third", x.run(1, 0, 0, 1), NONE);
    due("two tests", x.took(16), 2);
    earlierPlacesStay(x, any, one);
  }

  /** A row keeps what it has before the place that counts, and behind it. */
  private static void earlierPlacesStay(Forge x, int any, int one) {
    int two = x.exactly(2);
    x.match(3, 0, 0, 0);
    x.row(2, any, any, one);
    x.row(2, two, one, two);
    x.row(2, x.either(one, any), two, any);
    x.treeIs(2, 8, 0, 7, 5, 7);
    due("all three places", x.run(2, 1, 0, 1), 1);
    due("three tests", x.took(16), 3);
    due("another at the first place", x.run(2, 0, 1, 1), 2);
    due("another at the second place", x.run(2, 1, 1, 1), 2);
    due("another at the second place", x.run(2, 0, 0, 1), NONE);
    due("three tests", x.took(16), 3);
  }

  /** What a maker has comes in its place: before the second place of the match. */
  private static void partsComeInPlace() {
    Due.promise(15, "in the place of which come those of the maker's types");
    Forge x = Forge.lists();
    x.match(2, 1, 0, 0);
    int one = x.exactly(1);
    int pair = x.made(1, 1, one, x.any(1, NONE), 0);
    x.row(0, pair, one, 0);
    x.treeIs(0, 3, 0, 1, 3, 1);
    x.row(0, x.any(1, NONE), x.exactly(2), 0);
    x.treeIs(0, 5, 0, 4, 3, 3);
    x.number(2);
    x.number(1);
    x.make(1, 0, 0, 0, 0);
    x.make(1, 1, 0, 2, 0);
    due("the part does not match", x.run(0, 3, 1, 0), NONE);
    due("list, part, and the second place", x.took(16), 3);
    due("the list does not match", x.run(0, 2, 0, 0), 1);
    due("list and the second place", x.took(16), 2);
  }

  private static void nodesWithoutQuestions() {
    Due.promise(15, "more than 120 failures, taken and tests");
    Forge x = Forge.grid(9, 9);
    x.treeIs(0, 11, 0, 99, 10, 1023);
    x.row(0, x.exactly(0), x.exactly(777), 0);
    x.treeIsFull(0);
    due("nothing is told of it", x.missing(0), FULL);
    x.number(0);
    due("nothing is taken by it", x.run(0, 0, 0, 0), FULL);
    due("check()", x.check(), 1);
    Forge y = Forge.grid(9, 9);
    y.row(0, y.exactly(0), y.exactly(100), 0);
    y.treeIs(0, 11, 0, 99, 10, 1023);
    y.row(0, y.any(0, NONE), y.any(0, NONE), 0);
    y.treeIs(0, 11, 0, 109, 0, 3071);
    Forge z = Forge.grid(9, 9);
    z.row(0, z.exactly(50), z.exactly(100), 0);
    due("one more number at the first place", z.tree(0, 0), FULL);
  }

  private static void nodesWithQuestions() {
    Due.promise(15, "more than 120 failures, taken, questions and tests");
    Forge x = Forge.grid(9, 8);
    x.row(0, x.any(0, 0), x.any(0, 1), 0, 0, 1);
    x.treeIs(0, 11, 10, 89, 10, 1023);
    Forge y = Forge.grid(9, 8);
    y.row(0, y.exactly(0), y.exactly(777), 0);
    y.treeIs(0, 11, 0, 90, 10, 1023);
    y.row(0, y.any(0, 0), y.any(0, 1), 0, 0, 1);
    y.treeIsFull(0);
    Forge z = Forge.grid(9, 9);
    z.row(0, z.any(0, 0), z.any(0, 1), 0, 0, 1);
    z.treeIsFull(0);
  }

  /** Chains of guards that never hold, behind the branches of one test. */
  private static void questionsInChains() {
    Due.promise(15, "a question counts as one, the row that it takes as none");
    Forge x = new Forge();
    x.match(1, 0, 0, 0);
    int name = x.any(0, 0);
    int p = x.oneOf(0, 8);
    x.row(0, p, 0, 0);
    for (int r = 1; r < 12; r++) x.row(0, name, 0, 0, 0, 0);
    x.treeIs(0, 1, 11, 8, 1, 4095);
    Forge y = new Forge();
    y.match(1, 0, 0, 0);
    name = y.any(0, 0);
    y.row(0, y.also(0, y.exactly(0)), 0, 0, 0, 0);
    for (int r = 1; r <= 8; r++) y.row(0, y.also(0, y.exactly(r)), 0, 0, 0, 0);
    for (int r = 9; r < 12; r++) y.row(0, name, 0, 0, 0, 0);
    y.treeIs(0, 1, 39, 0, 10, 4095);
  }

  private static int rowsTogether(int before, int n, int after) {
    Forge x = new Forge();
    x.match(1, 0, 0, 0);
    for (int i = 0; i < before; i++) x.row(0, x.exactly(100 + i), 0, 0);
    x.row(0, x.oneOf(0, n), 0, 0);
    for (int i = 0; i < after; i++) x.row(0, x.exactly(200 + i), 0, 0);
    return x.tree(0, 2);
  }

  private static void rowsOfOneEither() {
    Due.promise(15, "more than 24 rows would come together");
    due("13 and 11", rowsTogether(0, 13, 11), 24);
    due("14 and 11", rowsTogether(0, 14, 11), FULL);
    due("11 and 13", rowsTogether(11, 13, 0), 24);
    due("11 and 14", rowsTogether(11, 14, 0), FULL);
    due("5, 13 and 6", rowsTogether(5, 13, 6), 24);
    due("5, 14 and 6", rowsTogether(5, 14, 6), FULL);
    due("20 alone", rowsTogether(0, 20, 0), 20);
    due("20 and 4", rowsTogether(0, 20, 4), 24);
    due("20 and 5", rowsTogether(0, 20, 5), FULL);
  }

  private static void rowsOfSeveralEither() {
    Due.promise(15, "all EITHER at that place in all rows are made two");
    for (int n = 12; n <= 13; n++) {
      Forge x = new Forge();
      x.match(1, 0, 0, 0);
      int p = x.oneOf(0, n);
      x.row(0, p, 0, 0);
      x.row(0, p, 0, 0);
      due("twice " + n, x.tree(0, 2), n == 12 ? 12 : FULL);
      due("the second is not needed", x.tree(0, 4), n == 12 ? 1 : FULL);
    }
    Forge y = new Forge();
    y.match(1, 0, 0, 0);
    int two = y.either(y.exactly(1), y.exactly(1));
    for (int r = 0; r < 12; r++) y.row(0, two, 0, 0);
    y.treeIs(0, 1, 0, 1, 1, 1);
    Forge z = new Forge();
    z.match(1, 0, 0, 0);
    two = z.either(z.exactly(1), z.exactly(1));
    for (int r = 0; r < 11; r++) z.row(0, two, 0, 0);
    z.treeIs(0, 1, 0, 1, 1, 1);
    z.row(0, z.either(two, z.exactly(1)), 0, 0);
    z.treeIsFull(0);
  }

  /** Behind a test only the rows of its branch come together, not those of all branches. */
  private static void rowsBehindTests() {
    Due.promise(15, "rows come together behind a test too");
    for (int n = 20; n <= 21; n++) {
      Forge x = new Forge();
      x.match(2, 0, 0, 0);
      int zero = x.exactly(0);
      x.row(0, zero, x.oneOf(0, 20), 0);
      for (int i = 20; i < n + 4; i++) x.row(0, zero, x.exactly(i), 0);
      due(n + " and 4", x.tree(0, 2), n == 20 ? 24 : FULL);
      due("tests", x.tree(0, 0), n == 20 ? 2 : FULL);
    }
    Forge y = new Forge();
    y.match(2, 0, 0, 0);
    int p = y.oneOf(0, 20);
    for (int i = 0; i < 4; i++) y.row(0, y.exactly(i), p, 0);
    y.treeIs(0, 5, 0, 80, 5, 15);
  }

  private static void rowsBehindQuestions() {
    Due.promise(15, "behind a question rows come together without the one that it asks for");
    for (int n = 14; n <= 15; n++) {
      Forge x = new Forge();
      x.match(1, 0, 0, 0);
      x.row(0, x.any(0, 0), 0, 0, 0, 0);
      x.row(0, x.oneOf(0, n), 0, 0);
      for (int i = 0; i < 10; i++) x.row(0, x.exactly(100 + i), 0, 0);
      due("10 and " + n, x.tree(0, 2), n == 14 ? 24 : FULL);
      due("questions", x.tree(0, 1), n == 14 ? 1 : FULL);
    }
  }

  /** EITHER is made two rows only where it counts: what is not looked at does not come together. */
  private static void eitherThatIsNotLookedAt() {
    Due.promise(15, "EITHER at other places stays as it is");
    Forge x = new Forge();
    x.match(2, 0, 0, 0);
    int many = x.oneOf(0, 19);
    int one = x.exactly(1);
    x.row(0, x.any(0, NONE), one, 0);
    for (int r = 1; r < 12; r++) x.row(0, many, one, 0);
    x.treeIs(0, 1, 0, 1, 1, 1);
    Forge y = new Forge();
    y.match(1, 0, 0, 0);
    int all = y.any(0, NONE);
    y.row(0, all, 0, 0);
    int few = y.oneOf(0, 13);
    for (int r = 1; r < 12; r++) y.row(0, few, 0, 0);
    y.treeIs(0, 0, 0, 1, 0, 1);
  }

  /** Of the first row one EITHER at a time: its first half may have ANY there. */
  private static void eitherStartsOver() {
    Due.promise(15, "the first row becomes two, and it starts over");
    Forge x = new Forge();
    x.match(2, 0, 0, 0);
    int any = x.any(0, NONE);
    int half = x.either(any, x.oneOf(0, 18));
    int two = x.exactly(2);
    for (int r = 0; r < 12; r++) x.row(0, half, two, 0);
    x.treeIs(0, 1, 0, 1, 1, 1);
    Forge y = new Forge();
    y.match(2, 0, 0, 0);
    any = y.any(0, NONE);
    y.row(0, y.either(y.either(any, y.exactly(1)), y.exactly(3)), y.exactly(2), 0);
    y.row(0, y.exactly(1), any, 0);
    y.treeIs(0, 2, 0, 2, 1, 3);
    y.number(1);
    y.number(2);
    y.number(3);
    due("by the second place alone", y.run(0, 0, 1, 0), 0);
    due("one test", y.took(16), 1);
    due("by both", y.run(0, 0, 2, 0), 1);
    due("two tests", y.took(16), 2);
    Forge z = new Forge();
    z.match(1, 0, 0, 0);
    z.row(0, z.either(z.any(0, 5), z.also(5, z.exactly(1))), 0, 0);
    z.treeIs(0, 0, 0, 1, 0, 1);
    z.match(3, 0, 0, 0);
    int some = z.either(z.any(0, NONE), z.exactly(1));
    z.row(1, some, some, some);
    z.treeIs(1, 0, 0, 1, 0, 1);
    z.match(3, 0, 0, 0);
    z.row(2, some, some, z.exactly(2));
    z.row(2, z.exactly(1), some, some);
    z.treeIs(2, 3, 0, 3, 2, 3);
  }

  /** The halves of EITHER stand in order: the first one's names are told, the second one's tested. */
  private static void eitherInOrder() {
    Due.promise(15, "two rows, one for each pattern, in order");
    Forge x = Forge.lists();
    int list = x.any(1, NONE);
    int first = x.made(1, 1, x.any(0, 4), list, 0);
    int empty = x.made(1, 0, 0, 0, 0);
    x.match(2, 1, 1, 0);
    x.row(0, x.either(x.also(9, empty), x.also(9, list)), first, 0);
    x.treeIs(0, 3, 0, 2, 2, 1);
    x.number(7);
    x.make(1, 0, 0, 0, 0);
    x.make(1, 1, 0, 1, 0);
    due("the first half", x.run(0, 1, 2, 0), 0);
    due("its name", x.took(9), 1);
    due("the second half", x.run(0, 2, 2, 0), 0);
    due("its name", x.took(9), 2);
    due("neither", x.run(0, 2, 1, 0), NONE);
  }

  /** A tree made once more after each row, too large or not, of several matches in turn. */
  private static void treesInTurn() {
    Due.promise(15, "of the tree of a match, and of no other");
    Forge x = new Forge();
    for (int m = 0; m < 20; m++) x.match(1, 0, 0, 0);
    int p = x.oneOf(0, 12);
    int q = x.exactly(0);
    x.row(7, p, 0, 0);
    x.row(7, p, 0, 0);
    x.row(8, p, 0, 0);
    for (int m = 0; m < 20; m++) {
      x.treeIs(m, m == 7 || m == 8 ? 1 : 0, 0, m == 7 || m == 8 ? 12 : 0, 1);
    }
    x.row(7, q, 0, 0);
    x.treeIsFull(7);
    x.treeIs(8, 1, 0, 12, 1, 1);
    due("a row that is none", x.row(8, -1, 0, 0), NONE);
    x.treeIs(8, 1, 0, 12, 1, 1);
    x.row(8, x.any(0, 0), 0, 0, 0, 0);
    x.treeIs(8, 1, 1, 12, 1, 3);
    x.treeIsFull(7);
    x.treeIs(19, 0, 0, 0, 1, 0);
    x.countsStand();
  }

  public static void main(String[] args) {
    treeOfWhat();
    treeOfWhatWhenTooLarge();
    ends();
    othersOfMakers();
    othersOfNumbers();
    neededRows();
    firstPlaceThatCounts();
    partsComeInPlace();
    nodesWithoutQuestions();
    nodesWithQuestions();
    questionsInChains();
    rowsOfOneEither();
    rowsOfSeveralEither();
    rowsBehindTests();
    rowsBehindQuestions();
    eitherThatIsNotLookedAt();
    eitherStartsOver();
    eitherInOrder();
    treesInTurn();
    Due.end();
  }
}

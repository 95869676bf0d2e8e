/** Edges of promises 13, 14 and 20: runs, what the latest one took, and check(). */
public final class RunEdgesTest {
  private static final int NONE = Forge.NONE;
  private static final int FULL = Forge.FULL;
  private static final int MIN = Integer.MIN_VALUE;
  private static final int MAX = Integer.MAX_VALUE;

  private static void due(String what, int got, int want) {
    Due.due(what, got, want);
  }

  /** A match of one number whose 26 rows would come together; without the second row, 13. */
  private static void tooLarge(Forge x, int m) {
    int p = x.oneOf(0, 13);
    x.row(m, p, 0, 0);
    x.row(m, p, 0, 0);
  }

  private static void namesAre(Forge x, int... namesAndValues) {
    int[] want = new int[16];
    java.util.Arrays.fill(want, NONE);
    for (int i = 0; i < namesAndValues.length; i += 2) want[namesAndValues[i]] = namesAndValues[i + 1];
    for (int name = 0; name <= 15; name++) due("took(" + name + ")", x.took(name), want[name]);
  }

  private static void testsAndQuestions(Forge x, int tests, int questions) {
    due("took(16)", x.took(16), tests);
    due("took(17)", x.took(17), questions);
  }

  private static void runOfWhat() {
    Due.promise(13, "NONE when there is no such match, or a value is none of its type");
    Forge x = Forge.lists();
    x.number(5);
    x.make(1, 0, 0, 0, 0);
    x.match(3, 0, 1, 0);
    x.match(1, 1, 0, 0);
    x.match(2, 0, 0, 0);
    int number = x.any(0, NONE);
    int list = x.any(1, NONE);
    x.row(0, number, list, number);
    x.row(1, list, 0, 0);
    x.row(2, number, number, 0);
    for (int m : Due.outside(3)) due("match " + m, x.run(m, 0, 1, 0), NONE);
    for (int v : Due.outside(2)) {
      due("the first " + v, x.run(0, v, 1, 0), NONE);
      due("the second " + v, x.run(0, 0, v, 0), NONE);
      due("the third " + v, x.run(0, 0, 1, v), NONE);
      due("the only one " + v, x.run(1, v, 0, 0), NONE);
    }
    due("the first of another type", x.run(0, 1, 1, 0), NONE);
    due("the second of another type", x.run(0, 0, 0, 0), NONE);
    due("the third of another type", x.run(0, 0, 1, 1), NONE);
    due("the only one of another type", x.run(1, 0, 1, 1), NONE);
    due("of three", x.run(0, 0, 1, 0), 0);
    due("of one, the others do not matter", x.run(1, 1, MIN, MAX), 0);
    due("of two, the other does not matter", x.run(2, 0, 0, -1), 0);
    x.countsStand();
  }

  private static void rowsInOrder() {
    Due.promise(13, "the first row whose patterns all match, and whose guard holds; NONE when none");
    Forge x = new Forge();
    x.match(1, 0, 0, 0);
    for (int v = 0; v < 13; v++) x.number(v);
    due("without rows", x.run(0, 0, 0, 0), NONE);
    for (int r = 0; r < 12; r++) {
      x.row(0, x.exactly(r), 0, 0);
      due("the last row", x.run(0, r, 0, 0), r);
      due("none", x.run(0, r + 1, 0, 0), NONE);
    }
    x.match(1, 0, 0, 0);
    x.row(1, 3, 0, 0);
    x.row(1, x.any(0, NONE), 0, 0);
    x.row(1, 3, 0, 0);
    due("the first of three that match", x.run(1, 3, 0, 0), 0);
    due("the first of one that matches", x.run(1, 4, 0, 0), 1);
  }

  /** The guard compares; a difference would wrap around between the least and the largest. */
  private static void guardsHold() {
    Due.promise(13, "a guard holds when the first one's number is less");
    Forge x = new Forge();
    int[] numbers = {MIN, MIN + 1, -1, 0, 1, MAX - 1, MAX};
    for (int v : numbers) x.number(v);
    x.match(2, 0, 0, 0);
    x.match(1, 0, 0, 0);
    x.row(0, x.any(0, 0), x.any(0, 15), 0, 0, 15);
    x.row(1, 0, 0, 0, 0, 0);
    x.match(2, 0, 0, 0);
    x.row(2, 0, 1, 0, 15, 0);
    for (int i = 0; i < numbers.length; i++) {
      for (int k = 0; k < numbers.length; k++) {
        due(numbers[i] + " and " + numbers[k], x.run(0, i, k, 0), i < k ? 0 : NONE);
        due(numbers[k] + " before " + numbers[i], x.run(2, i, k, 0), k < i ? 0 : NONE);
      }
      due("one name twice, " + numbers[i], x.run(1, i, 0, 0), NONE);
    }
  }

  private static void tooLargeToRun() {
    Due.promise(13, "FULL when it is too large");
    Forge x = new Forge();
    x.number(0);
    x.match(1, 0, 0, 0);
    x.match(1, 0, 0, 0);
    int any = x.any(0, 3);
    x.row(1, any, 0, 0);
    int p = x.oneOf(0, 12);
    x.row(0, p, 0, 0);
    x.row(0, p, 0, 0);
    due("24 rows together", x.run(0, 0, 0, 0), 0);
    due("a row of a NUMBER more", x.row(0, x.exactly(0), 0, 0), 2);
    due("25 rows together", x.run(0, 0, 0, 0), FULL);
    due("and once more", x.run(0, 0, 0, 0), FULL);
    due("another match", x.run(1, 0, 0, 0), 0);
    due("a row may still come", x.row(0, any, 0, 0), 3);
    due("it stays too large", x.run(0, 0, 0, 0), FULL);
    for (int v : Due.outside(1)) due("without such a value " + v, x.run(0, v, 0, 0), NONE);
    due("without such a match", x.run(2, 0, 0, 0), NONE);
    x.countsStand();
  }

  /** Match 0: names 0 and 15 with a guard, then 1 and 14 without; a test of the second place. */
  private static Forge pairs() {
    Forge x = Forge.lists();
    x.number(3);
    x.number(4);
    x.make(1, 0, 0, 0, 0);
    x.make(1, 1, 1, 2, 0);
    x.make(1, 1, 0, 2, 0);
    x.match(2, 0, 1, 0);
    x.row(0, x.any(0, 0), x.made(1, 1, x.any(0, 15), x.any(1, NONE), 0), 0, 0, 15);
    x.row(0, x.any(0, 1), x.made(1, 1, x.any(0, NONE), x.any(1, 14), 0), 0, NONE, 0);
    x.match(1, 0, 0, 0);
    return x;
  }

  private static void tookWhat() {
    Due.promise(14, "the value for which a name stands, NONE for none; NONE for others");
    Forge x = pairs();
    due("the guard holds", x.run(0, 0, 3, MAX), 0);
    namesAre(x, 0, 0, 15, 1);
    testsAndQuestions(x, 1, 1);
    for (int what : Due.outside(18)) due("took(" + what + ")", x.took(what), NONE);
    for (int what : new int[] {31, 32, 33, 47, 48, 49}) due("took(" + what + ")", x.took(what), NONE);
    due("the guard does not hold", x.run(0, 0, 4, 0), 1);
    namesAre(x, 1, 0, 14, 2);
    testsAndQuestions(x, 1, 1);
    due("no row", x.run(0, 0, 2, 0), NONE);
    namesAre(x);
    testsAndQuestions(x, 1, 0);
  }

  private static void tookBeforeRuns() {
    Due.promise(14, "before any run");
    Forge x = pairs();
    namesAre(x);
    testsAndQuestions(x, 0, 0);
    tooLarge(x, 1);
    due("a run that is FULL", x.run(1, 0, 0, 0), FULL);
    namesAre(x);
    testsAndQuestions(x, 0, 0);
  }

  private static void tookBehindNone() {
    Due.promise(14, "behind a run that was NONE: no names; 0 tests when no such match or value");
    Forge x = pairs();
    int[][] refused = {{-1, 0, 3}, {2, 0, 3}, {MAX, 0, 3}, {0, 5, 3}, {0, -1, 3}, {0, 0, 5},
      {0, 0, MIN}, {0, 2, 3}, {0, 0, 1}};
    for (int[] call : refused) {
      due("a run that takes a row", x.run(0, 0, 3, 0), 0);
      due("its name", x.took(15), 1);
      due("a run that is NONE", x.run(call[0], call[1], call[2], 0), NONE);
      namesAre(x);
      testsAndQuestions(x, 0, 0);
    }
    due("a run that takes a row", x.run(0, 0, 3, 0), 0);
    due("a match without rows", x.run(1, 0, 0, 0), NONE);
    namesAre(x);
    testsAndQuestions(x, 0, 0);
  }

  private static void tookBehindFailures() {
    Due.promise(14, "behind a run that took no row: the tests and questions that were made");
    Forge x = new Forge();
    x.match(2, 0, 0, 0);
    x.row(0, x.any(0, 0), x.any(0, 1), 0, 0, 1);
    x.row(0, x.exactly(5), x.any(0, 1), 0, 1, 1);
    x.row(0, x.exactly(5), x.exactly(4), 0);
    x.number(4);
    x.number(5);
    x.number(3);
    due("the first guard holds", x.run(0, 0, 1, 0), 0);
    testsAndQuestions(x, 0, 1);
    due("none but the last", x.run(0, 1, 0, 0), 2);
    namesAre(x);
    testsAndQuestions(x, 2, 2);
    due("none", x.run(0, 1, 2, 0), NONE);
    namesAre(x);
    testsAndQuestions(x, 2, 2);
    due("none, with one question", x.run(0, 0, 0, 0), NONE);
    namesAre(x);
    testsAndQuestions(x, 1, 1);
  }

  private static void tookBehindFull() {
    Due.promise(14, "behind a run that was FULL: of the latest that was not");
    Forge x = pairs();
    tooLarge(x, 1);
    due("a run that takes a row", x.run(0, 0, 3, 0), 0);
    due("a run that is FULL", x.run(1, 0, 0, 0), FULL);
    due("a run that is FULL", x.run(1, 1, 0, 0), FULL);
    namesAre(x, 0, 0, 15, 1);
    testsAndQuestions(x, 1, 1);
    due("a run that is NONE", x.run(0, 0, 2, 0), NONE);
    due("a run that is FULL", x.run(1, 0, 0, 0), FULL);
    namesAre(x);
    testsAndQuestions(x, 1, 0);
    due("a run that takes a row", x.run(0, 0, 4, 0), 1);
    due("without such a value, of what is too large", x.run(1, 5, 0, 0), NONE);
    namesAre(x);
    testsAndQuestions(x, 0, 0);
    due("a run that is FULL", x.run(1, 0, 0, 0), FULL);
    namesAre(x);
    testsAndQuestions(x, 0, 0);
  }

  private static void tookStays() {
    Due.promise(14, "other calls leave the latest run");
    Forge x = pairs();
    due("a run that takes a row", x.run(0, 0, 4, 0), 1);
    tooLarge(x, 1);
    x.tree(1, 0);
    x.tree(0, 4);
    x.missing(0);
    x.missing(1);
    x.missing(2);
    x.check();
    due("a row that would be taken", x.row(0, x.any(0, 7), x.any(1, 8), 0), 2);
    due("a row that is none", x.row(0, 0, 0, 0), NONE);
    due("a value", x.number(4), 5);
    namesAre(x, 1, 0, 14, 2);
    testsAndQuestions(x, 1, 1);
    due("the row that came is taken now", x.run(0, 0, 2, 0), 2);
    namesAre(x, 7, 0, 8, 2);
  }

  /** A match of 16 names for parts of one value: each stands for its own. */
  private static void tookAllNames() {
    Due.promise(14, "a name, 0 to 15");
    Forge x = Forge.lists();
    int p = x.any(1, 15);
    int v = x.make(1, 0, 0, 0, 0);
    int[] numbers = new int[15];
    for (int name = 14; name >= 0; name--) {
      p = x.made(1, 1, x.any(0, name), p, 0);
      numbers[name] = x.number(name % 2);
      v = x.make(1, 1, numbers[name], v, 0);
    }
    x.match(1, 1, 0, 0);
    x.row(0, p, 0, 0);
    due("run", x.run(0, v, 0, 0), 0);
    for (int name = 0; name <= 14; name++) due("took(" + name + ")", x.took(name), numbers[name]);
    due("took(15)", x.took(15), 0);
    testsAndQuestions(x, 15, 0);
  }

  private static void checkWithout() {
    Due.promise(20, "without matches, values, or a match that has types as the value's");
    Forge x = Forge.lists();
    due("without both", x.check(), 1);
    x.number(1);
    due("without matches", x.check(), 1);
    x.match(2, 0, 1, 0);
    x.match(3, 1, 1, 0);
    due("without a match of its types", x.check(), 1);
    x.match(1, 0, 0, 0);
    due("a match without rows", x.check(), 1);
    Forge y = Forge.lists();
    y.match(3, 1, 1, 1);
    due("without values", y.check(), 1);
    y.countsStand();
  }

  private static void checkWithTooLarge() {
    Due.promise(20, "a tree that is too large is not looked at");
    Forge x = new Forge();
    x.match(1, 0, 0, 0);
    x.match(2, 0, 0, 0);
    tooLarge(x, 0);
    x.row(1, x.any(0, 0), x.any(0, 1), 0, 0, 1);
    x.number(3);
    x.number(4);
    due("check()", x.check(), 1);
    due("it is too large", x.run(0, 0, 0, 0), FULL);
    due("the other is not", x.run(1, 0, 1, 0), 0);
  }

  private static void checkLeaves() {
    Due.promise(20, "the latest run stays, and what was told");
    Forge x = pairs();
    x.match(2, 0, 0, 0);
    x.row(2, x.any(0, 4), x.any(0, 5), 0, 4, 5);
    due("a run", x.run(0, 0, 3, 0), 0);
    due("missing values", x.missing(2), 2);
    due("check()", x.check(), 1);
    due("check() again", x.check(), 1);
    namesAre(x, 0, 0, 15, 1);
    testsAndQuestions(x, 1, 1);
    x.partsAre(0, 0);
    x.countsStand();
  }

  /** More than thirty values, of both types, in one, two and three places. */
  private static void checkManyValues() {
    Due.promise(20, "each of the last thirty values, in all places");
    Forge x = Forge.lists();
    int named = x.any(0, 0);
    for (int n = 1; n <= 3; n++) {
      x.match(n, 0, 0, 0);
      x.match(n, 1, 1, 1);
    }
    int[] numbers = {x.exactly(1), x.either(x.exactly(2), x.exactly(3)), x.any(0, NONE)};
    int list = x.any(1, NONE);
    int pair = x.made(1, 1, numbers[1], x.made(1, 0, 0, 0, 0), 0);
    int risen = x.made(1, 1, named, x.made(1, 1, x.also(1, numbers[2]), list, 0), 0);
    for (int m = 0; m < 6; m += 2) {
      x.row(m, numbers[2], named, numbers[0], NONE, 0);
      for (int p : numbers) x.row(m, p, p, p);
      x.row(m + 1, risen, list, list, 0, 1);
      x.row(m + 1, list, pair, list);
      x.row(m + 1, pair, list, list);
    }
    x.make(1, 0, 0, 0, 0);
    for (int i = 0; i < 40; i++) {
      due("check() with " + (2 * i + 1) + " values", x.check(), 1);
      x.number(i % 5);
      x.make(1, 1, 2 * i + 1, i % 3 == 0 ? 0 : 2 * i, 0);
    }
    due("check() with 81 values", x.check(), 1);
  }

  public static void main(String[] args) {
    runOfWhat();
    rowsInOrder();
    guardsHold();
    tooLargeToRun();
    tookWhat();
    tookBeforeRuns();
    tookBehindNone();
    tookBehindFailures();
    tookBehindFull();
    tookStays();
    tookAllNames();
    checkWithout();
    checkWithTooLarge();
    checkLeaves();
    checkManyValues();
    Due.end();
  }
}

/** Edges of promises 11, 12 and 19: matches, their rows and guards, and how many there are. */
public final class MatchEdgesTest {
  private static final int NONE = Forge.NONE;
  private static final int MIN = Integer.MIN_VALUE;
  private static final int MAX = Integer.MAX_VALUE;

  private static void due(String what, int got, int want) {
    Due.due(what, got, want);
  }

  private static void matchOfWhat() {
    Due.promise(11, "NONE when n is not 1 .. 3, or one is none");
    Forge x = Forge.lists();
    for (int n : new int[] {0, 4, -1, MIN, MAX}) due("n " + n, x.match(n, 0, 0, 0), NONE);
    for (int t : Due.outside(2)) {
      due("the first " + t, x.match(1, t, 0, 0), NONE);
      due("the second " + t, x.match(2, 0, t, 0), NONE);
      due("the third " + t, x.match(3, 0, 0, t), NONE);
      due("the first of three " + t, x.match(3, t, 0, 0), NONE);
      due("the second of three " + t, x.match(3, 0, t, 0), NONE);
    }
    x.countsStand();
    due("of one, the others do not matter", x.match(1, 1, MIN, MAX), 0);
    due("of two, the other does not matter", x.match(2, 0, 1, -1), 1);
    due("of three", x.match(3, 1, 0, 1), 2);
    x.countsStand();
    Due.promise(11, "without rows");
    for (int m = 0; m < 3; m++) x.treeIs(m, 0, 0, 0, 1, 0);
    due("missing values of one", x.missing(0), 1);
    due("missing values of two", x.missing(1), 2);
    due("missing values of three", x.missing(2), 3);
    x.partsAre(0, 0, 0);
  }

  private static void typesWithoutValues() {
    Due.promise(11, "NONE when any type that was told has no values");
    Forge x = new Forge();
    x.type();
    x.type();
    due("of the numbers, two have none", x.match(1, 0, 0, 0), NONE);
    x.maker(1, 0, 0, 0, 0);
    due("the last has none", x.match(1, 0, 0, 0), NONE);
    due("the last has none", x.match(1, 1, 0, 0), NONE);
    x.maker(2, 1, 2, 0, 0);
    due("the last has itself alone", x.match(1, 0, 0, 0), NONE);
    x.countsStand();
    due("makers may still come", x.maker(2, 1, 1, 0, 0), 1);
    due("now all have", x.match(2, 2, 0, 0), 0);
    due("a type that comes later", x.type(), 3);
    due("has none", x.match(1, 0, 0, 0), NONE);
    x.countsStand();
    Forge y = new Forge();
    y.type();
    y.type();
    y.maker(2, 0, 0, 0, 0);
    due("the first has none", y.match(1, 2, 0, 0), NONE);
    y.maker(1, 1, 2, 0, 0);
    due("now it has", y.match(1, 2, 0, 0), 0);
    y.countsStand();
  }

  private static void mostMatches() {
    Due.promise(11, "NONE when there are 20");
    Forge x = new Forge();
    for (int m = 0; m < 20; m++) due("match", x.match(1 + m % 3, 0, 0, 0), m);
    due("the 21st", x.match(1, 0, 0, 0), NONE);
    due("the 21st", x.match(3, 0, 0, 0), NONE);
    x.countsStand();
    int any = x.any(0, NONE);
    due("a row of the 20th", x.row(19, any, any, 0, NONE, 0), 0);
    due("a row of the 21st", x.row(20, any, any, any, NONE, 0), NONE);
    x.number(3);
    due("run of the 20th", x.run(19, 0, 0, 0), 0);
    due("run of the 21st", x.run(20, 0, 0, 0), NONE);
    due("run of the 19th", x.run(18, 0, 0, 0), NONE);
    due("tree of the 20th", x.tree(19, 2), 1);
    due("tree of the 21st", x.tree(20, 2), NONE);
    due("missing of the 20th", x.missing(19), 0);
    due("missing of the 21st", x.missing(20), NONE);
    x.countsStand();
  }

  private static void rowOfWhat() {
    Due.promise(12, "NONE when there is no such match, or a pattern is none of its type");
    Forge x = Forge.lists();
    int number = x.any(0, NONE);
    int list = x.any(1, NONE);
    x.match(3, 0, 1, 0);
    x.match(1, 1, 0, 0);
    x.match(2, 0, 0, 0);
    for (int m : Due.outside(3)) due("match " + m, x.row(m, number, list, number, NONE, 0), NONE);
    for (int p : Due.outside(2)) {
      due("the first " + p, x.row(0, p, list, number, NONE, 0), NONE);
      due("the second " + p, x.row(0, number, p, number, NONE, 0), NONE);
      due("the third " + p, x.row(0, number, list, p, NONE, 0), NONE);
      due("the only one " + p, x.row(1, p, number, number, NONE, 0), NONE);
    }
    due("the first of another type", x.row(0, list, list, number, NONE, 0), NONE);
    due("the second of another type", x.row(0, number, number, number, NONE, 0), NONE);
    due("the third of another type", x.row(0, number, list, list, NONE, 0), NONE);
    due("the only one of another type", x.row(1, number, list, list, NONE, 0), NONE);
    x.countsStand();
    for (int m = 0; m < 3; m++) x.treeIs(m, 0, 0, 0, 1, 0);
    due("of three", x.row(0, number, list, number, NONE, 0), 0);
    due("of one, the others do not matter", x.row(1, list, MIN, MAX, NONE, 0), 0);
    due("of two, the other does not matter", x.row(2, number, number, -1, NONE, 0), 0);
    due("each match has its own numbers", x.row(1, list, 0, 0, NONE, 0), 1);
    x.countsStand();
    for (int m = 0; m < 3; m++) x.treeIs(m, 0, 0, 1, 0, 1);
  }

  private static void rowNames() {
    Due.promise(12, "NONE when two have a name in common");
    Forge x = Forge.shapes();
    int a = x.any(1, 0);
    int b = x.any(1, 15);
    int any = x.any(1, NONE);
    int deep = x.made(1, 2, any, b, 0);
    x.match(3, 1, 1, 1);
    x.match(2, 1, 1, 0);
    due("the first and the second", x.row(0, b, b, a, NONE, 0), NONE);
    due("the first and the third", x.row(0, a, any, a, NONE, 0), NONE);
    due("the second and the third", x.row(0, any, b, b, NONE, 0), NONE);
    due("deep", x.row(0, deep, any, b, NONE, 0), NONE);
    due("of two", x.row(1, a, a, b, NONE, 0), NONE);
    x.countsStand();
    due("ANY thrice", x.row(0, any, any, any, NONE, 0), 0);
    due("names apart", x.row(0, a, deep, any, NONE, 0), 1);
    due("what does not matter has none in common", x.row(1, a, b, a, NONE, 0), 0);
    due("rows may have names in common", x.row(1, b, a, b, NONE, 0), 1);
    x.countsStand();
  }

  private static Forge withNames() {
    Forge x = Forge.lists();
    x.any(0, 0);
    x.made(1, 1, x.any(0, 15), x.any(1, 7), 0);
    x.also(3, x.exactly(4));
    x.also(9, x.any(1, 10));
    x.match(2, 0, 1, 0);
    return x;
  }

  /** Patterns of withNames: names 0, 3 and 15 stand for numbers, 7, 9 and 10 for lists. */
  private static final int NAME_0 = 0;
  private static final int NAMES_15_7 = 3;
  private static final int NAME_3 = 5;
  private static final int NAMES_9_10 = 7;

  private static void guards() {
    Due.promise(12, "NONE when a guard's names are none of theirs that stand for numbers");
    Forge x = withNames();
    for (int name : Due.noNames()) {
      due("x " + name, x.row(0, NAME_0, NAMES_15_7, 0, name, 0), NONE);
      due("y " + name, x.row(0, NAME_0, NAMES_15_7, 0, 0, name), NONE);
    }
    due("y NONE", x.row(0, NAME_0, NAMES_15_7, 0, 0, NONE), NONE);
    due("x is a list's", x.row(0, NAME_0, NAMES_15_7, 0, 7, 0), NONE);
    due("y is a list's", x.row(0, NAME_0, NAMES_15_7, 0, 0, 7), NONE);
    due("both are a list's", x.row(0, NAME_0, NAMES_15_7, 0, 7, 7), NONE);
    due("x is none of theirs", x.row(0, NAME_0, NAMES_15_7, 0, 3, 0), NONE);
    due("y is none of theirs", x.row(0, NAME_0, NAMES_15_7, 0, 0, 3), NONE);
    due("x is a list's, by ALSO", x.row(0, NAME_3, NAMES_9_10, 0, 9, 3), NONE);
    due("y is a list's, in ALSO", x.row(0, NAME_3, NAMES_9_10, 0, 3, 10), NONE);
    due("x is of what does not matter", x.row(0, NAME_0, NAMES_15_7, NAME_3, 3, 0), NONE);
    for (int name = 0; name <= 15; name++) {
      due("none but 3, x " + name, name == 3 ? NONE : x.row(0, NAME_3, NAMES_9_10, 0, name, 3), NONE);
      due("none but 3, y " + name, name == 3 ? NONE : x.row(0, NAME_3, NAMES_9_10, 0, 3, name), NONE);
    }
    x.countsStand();
    x.treeIs(0, 0, 0, 0, 1, 0);
    due("names 0 and 15", x.row(0, NAME_0, NAMES_15_7, 0, 0, 15), 0);
    due("names 15 and 0", x.row(0, NAME_0, NAMES_15_7, 0, 15, 0), 1);
    due("a name twice", x.row(0, NAME_0, NAMES_15_7, 0, 15, 15), 2);
    due("names 3 and 15", x.row(0, NAME_3, NAMES_15_7, 0, 3, 15), 3);
    due("name 3 twice", x.row(0, NAME_3, NAMES_9_10, 0, 3, 3), 4);
    x.countsStand();
  }

  private static void withoutGuard() {
    Due.promise(12, "x NONE: without, y does not matter");
    Forge x = withNames();
    int row = 0;
    for (int y : new int[] {NONE, 0, 7, 16, MIN, MAX}) {
      due("y " + y, x.row(0, NAME_0, NAMES_15_7, 0, NONE, y), row);
      row++;
    }
    x.treeIs(0, 1, 0, 1, 1, 1);
    x.countsStand();
  }

  private static void guardsWithEither() {
    Due.promise(12, "NONE when there is EITHER in a row with a guard");
    Forge x = Forge.lists();
    int n = x.any(0, 0);
    int any = x.any(0, NONE);
    int anyList = x.any(1, NONE);
    int fork = x.either(any, any);
    int namedFork = x.also(5, fork);
    int forkOfNames = x.either(x.any(0, 6), x.also(6, x.exactly(1)));
    int deep = x.made(1, 1, fork, anyList, 0);
    x.match(3, 0, 0, 1);
    due("the first", x.row(0, fork, n, anyList, 0, 0), NONE);
    due("the second", x.row(0, n, fork, anyList, 0, 0), NONE);
    due("in ALSO, which has the name", x.row(0, namedFork, n, anyList, 5, 0), NONE);
    due("that has the name", x.row(0, forkOfNames, n, anyList, 6, 6), NONE);
    due("in a MAKER", x.row(0, n, any, deep, 0, 0), NONE);
    x.countsStand();
    due("without a guard, the first", x.row(0, fork, n, anyList, NONE, 0), 0);
    due("without a guard, with names", x.row(0, forkOfNames, namedFork, deep, NONE, 0), 1);
    due("with a guard, without EITHER", x.row(0, n, any, anyList, 0, 0), 2);
    x.match(1, 0, 0, 0);
    due("what does not matter has no EITHER", x.row(1, n, fork, deep, 0, 0), 0);
    x.countsStand();
  }

  private static void mostRows() {
    Due.promise(12, "NONE when there are 12");
    Forge x = new Forge();
    x.match(1, 0, 0, 0);
    x.match(1, 0, 0, 0);
    for (int r = 0; r < 12; r++) due("row", x.row(0, x.exactly(r), 0, 0, NONE, 0), r);
    int any = x.any(0, 2);
    due("the 13th", x.row(0, any, 0, 0, NONE, 0), NONE);
    due("the 13th with a guard", x.row(0, any, 0, 0, 2, 2), NONE);
    x.countsStand();
    x.treeIs(0, 1, 0, 12, 1, 4095);
    due("the 13th behind the tree", x.row(0, any, 0, 0, NONE, 0), NONE);
    x.treeIs(0, 1, 0, 12, 1, 4095);
    x.number(11);
    x.number(12);
    due("the 12th is taken", x.run(0, 0, 0, 0), 11);
    due("the 13th is not", x.run(0, 1, 0, 0), NONE);
    due("a row of another match", x.row(1, any, 0, 0, NONE, 0), 0);
    due("is taken", x.run(1, 1, 0, 0), 0);
    x.countsStand();
  }

  private static void counts() {
    Due.promise(19, "NONE for others");
    Forge x = Forge.lists();
    for (int what : Due.outside(6)) due("count(" + what + ")", x.count(what), NONE);
    int[] want = {2, 2, 0, 0, 0, 0};
    for (int what = 0; what < 6; what++) due("count(" + what + ")", x.count(what), want[what]);
  }

  /** 20 matches, 12 rows each; 7 types, 6 makers each. */
  private static void countsAtTheirMost() {
    Due.promise(19, "how many there are, at their most");
    Forge x = new Forge();
    for (int t = 1; t <= 8; t++) x.type();
    for (int t = 1; t <= 7; t++) {
      for (int k = 0; k < 7; k++) x.maker(t, 0, 0, 0, 0);
    }
    int any = x.any(0, NONE);
    for (int m = 0; m < 21; m++) x.match(1, 0, 0, 0);
    for (int m = 0; m < 20; m++) {
      for (int r = 0; r < 13; r++) x.row(m, any, 0, 0, NONE, 0);
    }
    int[] want = {8, 42, 0, 1, 20, 240, NONE};
    for (int what = 0; what < 7; what++) due("count(" + what + ")", x.count(what), want[what]);
  }

  public static void main(String[] args) {
    matchOfWhat();
    typesWithoutValues();
    mostMatches();
    rowOfWhat();
    rowNames();
    guards();
    withoutGuard();
    guardsWithEither();
    mostRows();
    counts();
    countsAtTheirMost();
    Due.end();
  }
}

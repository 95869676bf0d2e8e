/** Edges of promises 6 to 10: patterns of each kind. */
public final class PatternEdgesTest {
  private static final int NONE = Forge.NONE;
  private static final int MIN = Integer.MIN_VALUE;
  private static final int MAX = Integer.MAX_VALUE;

  private static void due(String what, int got, int want) {
    Due.due(what, got, want);
  }

  /** So many patterns, the last of which are NUMBERs. */
  private static void fillTo(Forge x, int made, int wanted) {
    for (int i = made; i < wanted; i++) due("exactly(" + i + ")", x.exactly(i), i);
  }

  private static void noMorePatterns(Forge x) {
    due("the 301st, ANY", x.any(0, NONE), NONE);
    due("the 301st, a NAME", x.any(1, 15), NONE);
    due("the 301st, ALSO", x.also(3, 0), NONE);
    due("the 301st, a NUMBER", x.exactly(0), NONE);
    due("the 301st, a MAKER", x.made(1, 0, 0, 0, 0), NONE);
    due("the 301st, EITHER", x.either(1, 1), NONE);
    x.countsStand();
    due("a value is no pattern", x.number(1), 0);
    due("a match is none", x.match(1, 0, 0, 0), 0);
    x.countsStand();
  }

  /** Each kind as the 300th pattern; the first ones are ANY of the numbers and a NUMBER. */
  private static void mostPatterns() {
    int[] promises = {6, 6, 7, 8, 9, 10};
    for (int kind = 0; kind < promises.length; kind++) {
      Due.promise(promises[kind], "NONE when there are 300");
      Forge x = Forge.lists();
      x.any(0, NONE);
      fillTo(x, 1, 299);
      due("the 300th", lastOfKind(x, kind), 299);
      noMorePatterns(x);
      x.number(299);
      x.row(0, 0, 0, 0, NONE, 0);
      due("the tree", x.tree(0, 2), 1);
    }
  }

  private static int lastOfKind(Forge x, int kind) {
    switch (kind) {
      case 0:
        return x.any(1, NONE);
      case 1:
        return x.any(0, 15);
      case 2:
        return x.also(3, 0);
      case 3:
        return x.exactly(MIN);
      case 4:
        return x.made(1, 0, 0, 0, 0);
      default:
        return x.either(298, 0);
    }
  }

  /** The 300th pattern is one like others: it stands in rows, and matches. */
  private static void theLastPattern() {
    Due.promise(8, "the 300th pattern is one like others");
    Forge x = Forge.lists();
    fillTo(x, 0, 300);
    x.match(2, 0, 0, 0);
    due("a row with the last", x.row(0, 299, 0, MAX, NONE, 0), 0);
    due("a row with the one behind it", x.row(0, 300, 0, 0, NONE, 0), NONE);
    due("a row with the one behind it", x.row(0, 0, 300, 0, NONE, 0), NONE);
    x.number(0);
    x.number(299);
    due("run", x.run(0, 1, 0, 0), 0);
    due("run", x.run(0, 0, 1, 0), NONE);
    x.countsStand();
  }

  private static void any() {
    Due.promise(6, "NONE when there is no such type or name");
    Forge x = Forge.lists();
    for (int t : Due.outside(2)) {
      due("ANY of type " + t, x.any(t, NONE), NONE);
      due("a NAME of type " + t, x.any(t, 0), NONE);
    }
    for (int name : Due.noNames()) {
      due("name " + name, x.any(0, name), NONE);
      due("name " + name + " of a list", x.any(1, name), NONE);
    }
    x.countsStand();
    due("ANY of the numbers", x.any(0, NONE), 0);
    due("ANY of the last type", x.any(1, NONE), 1);
    for (int name = 0; name <= 15; name++) due("name " + name, x.any(name & 1, name), 2 + name);
    x.type();
    due("of a type without values", x.any(2, 15), 18);
    x.countsStand();
    x.number(MIN);
    due("a type without values stops matches alone", x.match(1, 0, 0, 0), NONE);
  }

  private static void anyMatchesAll() {
    Due.promise(6, "ANY matches all values of a type, a NAME likewise, and stands for it then");
    Forge x = Forge.lists();
    int[] values = {x.number(MIN), x.number(MAX), x.number(0)};
    int empty = x.make(1, 0, 0, 0, 0);
    x.match(1, 0, 0, 0);
    x.match(1, 1, 0, 0);
    x.match(1, 0, 0, 0);
    due("a row with name 15", x.row(0, x.any(0, 15), 0, 0, NONE, 0), 0);
    due("a row with name 0", x.row(1, x.any(1, 0), 0, 0, NONE, 0), 0);
    due("a row with ANY", x.row(2, x.any(0, NONE), 0, 0, NONE, 0), 0);
    for (int v : values) {
      due("run", x.run(0, v, 0, 0), 0);
      due("name 15", x.took(15), v);
      due("name 14", x.took(14), NONE);
      due("run with ANY", x.run(2, v, 0, 0), 0);
      for (int name = 0; name <= 15; name++) due("took(" + name + ")", x.took(name), NONE);
    }
    due("run with a list", x.run(1, empty, 0, 0), 0);
    due("name 0", x.took(0), empty);
    due("name 15", x.took(15), NONE);
  }

  private static void also() {
    Due.promise(7, "NONE when there is no such pattern or name");
    Forge x = Forge.lists();
    x.exactly(4);
    x.any(1, NONE);
    for (int name : Due.noNames()) due("name " + name, x.also(name, 0), NONE);
    due("name NONE", x.also(NONE, 0), NONE);
    for (int p : Due.outside(2)) due("pattern " + p, x.also(0, p), NONE);
    x.countsStand();
    due("name 0 of the first", x.also(0, 0), 2);
    due("name 15 of the last", x.also(15, 2), 3);
    due("of a list", x.also(15, 1), 4);
    due("a pattern that is itself", x.also(7, 5), NONE);
    x.countsStand();
    Due.promise(7, "of the type of its pattern");
    due("a list where a number stands", x.made(1, 1, 4, 1, 0), NONE);
    due("a number where a list stands", x.made(1, 1, 0, 2, 0), NONE);
    due("each where it stands", x.made(1, 1, 2, 4, 0), 5);
    x.countsStand();
  }

  private static void alsoHasTheName() {
    Due.promise(7, "NONE when it has the name");
    Forge x = Forge.lists();
    int named = x.any(0, 3);
    int four = x.also(15, x.exactly(4));
    int head = x.made(1, 1, named, x.any(1, 0), 0);
    int fork = x.either(x.also(3, x.exactly(1)), named);
    int deep = x.made(1, 1, fork, x.any(1, NONE), 0);
    x.countsStand();
    due("a NAME", x.also(3, named), NONE);
    due("ALSO", x.also(15, four), NONE);
    due("in a MAKER", x.also(3, head), NONE);
    due("in a MAKER, the second", x.also(0, head), NONE);
    due("in EITHER", x.also(3, fork), NONE);
    due("in EITHER in a MAKER", x.also(3, deep), NONE);
    x.countsStand();
    due("another name", x.also(4, named), x.count(3) - 1);
    due("another name", x.also(14, four), x.count(3) - 1);
    due("another name", x.also(15, head), x.count(3) - 1);
    due("another name", x.also(2, fork), x.count(3) - 1);
    due("another name", x.also(0, deep), x.count(3) - 1);
    x.countsStand();
  }

  private static void alsoAllNames() {
    Due.promise(7, "all 16 names");
    Forge x = new Forge();
    x.exactly(4);
    for (int name = 0; name <= 15; name++) due("also(" + name + ")", x.also(name, name), name + 1);
    for (int name = 0; name <= 15; name++) due("twice " + name, x.also(name, 16), NONE);
    x.countsStand();
    x.match(1, 0, 0, 0);
    due("a row, its guard the first and the last name", x.row(0, 16, 0, 0, 0, 15), 0);
    due("a row without", x.row(0, 16, 0, 0, NONE, 0), 1);
    x.number(4);
    x.number(5);
    due("it matches as the pattern", x.run(0, 0, 0, 0), 1);
    for (int name = 0; name <= 15; name++) due("took(" + name + ")", x.took(name), 0);
    due("took(16)", x.took(16), 1);
    due("took(17)", x.took(17), 1);
    due("it does not", x.run(0, 1, 0, 0), NONE);
    for (int name = 0; name <= 15; name++) due("took(" + name + ")", x.took(name), NONE);
  }

  private static void alsoSizes() {
    Due.promise(7, "NONE when it would be too large: over 40");
    Forge x = new Forge();
    int p = x.oneOf(0, 19);
    int count = x.count(3);
    due("1 + 37", x.also(0, p), count);
    due("1 + 38", x.also(1, count), count + 1);
    due("1 + 39", x.also(2, count + 1), count + 2);
    due("1 + 40", x.also(3, count + 2), NONE);
    due("1 + 40 once more", x.also(15, count + 2), NONE);
    x.countsStand();
    x.match(1, 0, 0, 0);
    x.row(0, count + 2, 0, 0, NONE, 0);
    x.number(18);
    due("a pattern of size 40", x.run(0, 0, 0, 0), 0);
    due("its name", x.took(2), 0);
  }

  private static void exactly() {
    Due.promise(8, "a NUMBER matches itself");
    Forge x = new Forge();
    x.match(1, 0, 0, 0);
    int[] numbers = {MIN, MAX, 0, -1, NONE - 1, 1};
    for (int i = 0; i < numbers.length; i++) {
      due("exactly(" + numbers[i] + ")", x.exactly(numbers[i]), i);
      due("row", x.row(0, i, 0, 0, NONE, 0), i);
    }
    for (int i = 0; i < numbers.length; i++) {
      due("number", x.number(numbers[i]), i);
      due("run of " + numbers[i], x.run(0, i, 0, 0), i);
      due("one test", x.took(16), 1);
    }
    due("none of them", x.run(0, x.number(2), 0, 0), NONE);
    due("none of them", x.run(0, x.number(MIN + 1), 0, 0), NONE);
    due("none of them", x.run(0, x.number(MAX - 1), 0, 0), NONE);
    due("it has no names", x.either(0, x.any(0, NONE)), numbers.length + 1);
    x.countsStand();
  }

  private static void madeMakers() {
    Due.promise(9, "NONE when there is none such");
    Forge x = Forge.lists();
    x.type();
    for (int k = 0; k < 6; k++) x.maker(2, 0, 0, 0, 0);
    x.any(0, NONE);
    for (int t : Due.outside(3)) due("type " + t, x.made(t, 0, 0, 0, 0), NONE);
    for (int k = 0; k <= 5; k++) due("the numbers, maker " + k, x.made(0, k, 0, 0, 0), NONE);
    for (int k : Due.outside(2)) due("maker " + k, x.made(1, k, 0, 0, 0), NONE);
    for (int k : Due.outside(6)) due("maker " + k, x.made(2, k, 0, 0, 0), NONE);
    x.countsStand();
    due("the first maker", x.made(1, 0, MIN, MAX, -1), 1);
    due("the last maker", x.made(2, 5, 0, 0, 0), 2);
    x.countsStand();
  }

  private static void madeParts() {
    Due.promise(9, "NONE when one of its patterns is none of its type");
    Forge x = new Forge();
    x.type();
    x.maker(1, 0, 0, 0, 0);
    x.maker(1, 1, 1, 0, 0);
    x.maker(1, 2, 0, 1, 0);
    x.maker(1, 3, 1, 0, 1);
    due("it is no part of itself", x.made(1, 1, 0, 0, 0), NONE);
    x.exactly(4);
    due("without parts", x.made(1, 0, MIN, MAX, -1), 1);
    for (int p : Due.outside(2)) {
      due("the first " + p, x.made(1, 1, p, 1, 1), NONE);
      due("the second " + p, x.made(1, 2, 0, p, 0), NONE);
      due("the third " + p, x.made(1, 3, 1, 0, p), NONE);
      due("the first of three " + p, x.made(1, 3, p, 0, 1), NONE);
      due("the second of three " + p, x.made(1, 3, 1, p, 1), NONE);
    }
    due("the first of another type", x.made(1, 1, 0, 0, 0), NONE);
    due("the first of another type", x.made(1, 2, 1, 1, 0), NONE);
    due("the second of another type", x.made(1, 2, 0, 0, 0), NONE);
    due("the second of another type", x.made(1, 3, 1, 1, 1), NONE);
    due("the third of another type", x.made(1, 3, 1, 0, 0), NONE);
    x.countsStand();
    due("of one, the others do not matter", x.made(1, 1, 1, MIN, MAX), 2);
    due("of two, the other does not matter", x.made(1, 2, 0, 2, MAX), 3);
    due("of three", x.made(1, 3, 3, 0, 2), 4);
    x.countsStand();
  }

  private static void madeNames() {
    Due.promise(9, "NONE when two have a name in common");
    Forge x = Forge.shapes();
    int a = x.any(1, 0);
    int b = x.any(1, 15);
    int any = x.any(1, NONE);
    int deep = x.made(1, 2, any, b, 0);
    int fork = x.either(a, a);
    x.countsStand();
    due("of two", x.made(1, 2, a, a, b), NONE);
    due("of three, the first and the second", x.made(1, 3, b, b, any), NONE);
    due("of three, the first and the third", x.made(1, 3, a, any, a), NONE);
    due("of three, the second and the third", x.made(1, 3, any, a, a), NONE);
    due("deep", x.made(1, 2, b, deep, 0), NONE);
    due("in EITHER", x.made(1, 3, fork, b, a), NONE);
    x.countsStand();
    due("ANY twice has no name", x.made(1, 3, any, any, any), 5);
    due("names apart", x.made(1, 3, a, b, any), 6);
    due("what does not matter has none in common", x.made(1, 1, a, a, a), 7);
    due("what does not matter has none in common", x.made(1, 2, a, b, a), 8);
    due("deep, apart", x.made(1, 2, fork, deep, 0), 9);
    due("what is made has the names of its parts", x.made(1, 2, 9, b, 0), NONE);
    due("what is made has the names of its parts", x.made(1, 2, a, 9, 0), NONE);
    x.countsStand();
  }

  private static void madeSizes() {
    Due.promise(9, "NONE when it would be too large: over 40");
    Forge x = Forge.shapes();
    for (int size = 1; size <= 40; size++) {
      due("of size " + size, x.made(1, size == 1 ? 0 : 1, size - 2, 0, 0), size - 1);
    }
    due("1 + 40", x.made(1, 1, 39, 0, 0), NONE);
    due("1 + 39 + 1", x.made(1, 2, 38, 0, 0), NONE);
    due("1 + 1 + 39", x.made(1, 2, 0, 38, 0), NONE);
    due("1 + 20 + 20", x.made(1, 2, 19, 19, 0), NONE);
    due("1 + 13 + 13 + 14", x.made(1, 3, 12, 12, 13), NONE);
    due("1 + 40 + 40 + 40", x.made(1, 3, 39, 39, 39), NONE);
    x.countsStand();
    due("1 + 38 + 1", x.made(1, 2, 37, 0, 0), 40);
    due("1 + 1 + 38", x.made(1, 2, 0, 37, 0), 41);
    due("1 + 19 + 20", x.made(1, 2, 18, 19, 0), 42);
    due("1 + 13 + 13 + 13", x.made(1, 3, 12, 12, 12), 43);
    for (int p = 39; p <= 43; p++) {
      due("1 + size of " + p, x.made(1, 1, p, 0, 0), NONE);
      due("ALSO, 1 + size of " + p, x.also(0, p), NONE);
      due("EITHER, 1 + size of " + p + " + 1", x.either(p, 0), NONE);
    }
    x.countsStand();
    runsOfTheLargest(x);
  }

  /** A pattern of size 40 asks for 40 tests, of a value of size 40. */
  private static void runsOfTheLargest(Forge x) {
    x.match(1, 1, 0, 0);
    x.row(0, 39, 0, 0, NONE, 0);
    for (int v = 0; v < 41; v++) x.make(1, v == 0 ? 0 : 1, v - 1, 0, 0);
    due("a value like it", x.run(0, 39, 0, 0), 0);
    due("so many tests", x.took(16), 40);
    due("a larger one", x.run(0, 40, 0, 0), NONE);
    due("as many tests", x.took(16), 40);
    due("a smaller one", x.run(0, 38, 0, 0), NONE);
    due("one test less", x.took(16), 39);
    due("the missing value is a larger one", x.missing(0), 41);
    due("where the end was tested, the least other", x.part(39), 1);
    due("and of that the plain one", x.part(40), 0);
  }

  private static void eitherOfWhat() {
    Due.promise(10, "NONE when there are no such patterns");
    Forge x = Forge.lists();
    x.exactly(1);
    x.exactly(2);
    for (int p : Due.outside(2)) {
      due("the first " + p, x.either(p, 0), NONE);
      due("the second " + p, x.either(1, p), NONE);
      due("both " + p, x.either(p, p), NONE);
    }
    x.countsStand();
    due("the first and the last", x.either(0, 1), 2);
    due("one twice", x.either(1, 1), 3);
    due("EITHER in it", x.either(2, 3), 4);
    x.countsStand();
  }

  private static void eitherAlike() {
    Due.promise(10, "NONE when they are not alike in type and names");
    Forge x = Forge.lists();
    int number = x.any(0, NONE);
    int list = x.any(1, NONE);
    int number0 = x.any(0, 0);
    int list0 = x.any(1, 0);
    int number15 = x.any(0, 15);
    int both = x.also(15, number0);
    int bothToo = x.also(0, x.also(15, x.exactly(3)));
    int twoNumbers = x.made(1, 1, number0, x.any(1, 15), 0);
    int twoOthers = x.made(1, 1, number15, list0, 0);
    x.countsStand();
    int[][] unlike = {{number, list}, {list, number}, {number0, list0}, {number, number0},
      {number0, number}, {number0, number15}, {both, number0}, {number0, both}, {number15, both},
      {both, twoNumbers}, {twoNumbers, list0}, {twoNumbers, list}};
    for (int[] pair : unlike) due("unlike", x.either(pair[0], pair[1]), NONE);
    x.countsStand();
    due("no names", x.either(number, x.exactly(1)), x.count(3) - 1);
    due("one name", x.either(number0, number0), x.count(3) - 1);
    due("two names", x.either(both, bothToo), x.count(3) - 1);
    due("two names, for others each", x.either(twoNumbers, twoOthers), x.count(3) - 1);
    int fork = x.count(3) - 1;
    due("it has these names", x.either(fork, twoOthers), fork + 1);
    due("it has these names", x.either(fork, list0), NONE);
    due("it is of this type", x.either(both, fork), NONE);
    x.countsStand();
  }

  private static void eitherSizes() {
    Due.promise(10, "NONE when it would be too large: over 40");
    Forge x = Forge.shapes();
    for (int size = 1; size <= 40; size++) x.made(1, size == 1 ? 0 : 1, size - 2, 0, 0);
    for (int size = 1; size <= 39; size++) {
      due("1 + " + size + " + " + (40 - size), x.either(size - 1, 39 - size), NONE);
    }
    due("1 + 40 + 1", x.either(39, 0), NONE);
    due("1 + 1 + 40", x.either(0, 39), NONE);
    due("1 + 40 + 40", x.either(39, 39), NONE);
    x.countsStand();
    for (int size = 1; size <= 38; size++) {
      due("1 + " + size + " + " + (39 - size), x.either(size - 1, 38 - size), 39 + size);
    }
    due("ALSO, 1 + 40", x.also(0, 40), NONE);
    due("a MAKER, 1 + 40", x.made(1, 1, 40, 0, 0), NONE);
    x.countsStand();
  }

  private static void eitherTakes() {
    Due.promise(10, "the first one, if that matches, else the second one");
    Forge x = Forge.lists();
    int any = x.any(1, NONE);
    int head = x.made(1, 1, x.any(0, 2), any, 0);
    int second = x.made(1, 1, x.any(0, NONE), head, 0);
    x.match(1, 1, 0, 0);
    x.match(1, 1, 0, 0);
    x.row(0, x.either(head, second), 0, 0, NONE, 0);
    x.row(1, x.either(second, head), 0, 0, NONE, 0);
    x.number(8);
    x.number(8);
    x.make(1, 0, 0, 0, 0);
    x.make(1, 1, 1, 2, 0);
    x.make(1, 1, 0, 3, 0);
    due("both match", x.run(0, 4, 0, 0), 0);
    due("the first one's name", x.took(2), 0);
    due("both match", x.run(1, 4, 0, 0), 0);
    due("the first one's name", x.took(2), 1);
    due("the second one matches", x.run(1, 3, 0, 0), 0);
    due("the second one's name", x.took(2), 1);
    due("none matches", x.run(1, 2, 0, 0), NONE);
    due("no name", x.took(2), NONE);
  }

  public static void main(String[] args) {
    mostPatterns();
    theLastPattern();
    any();
    anyMatchesAll();
    also();
    alsoHasTheName();
    alsoAllNames();
    alsoSizes();
    exactly();
    madeMakers();
    madeParts();
    madeNames();
    madeSizes();
    eitherOfWhat();
    eitherAlike();
    eitherSizes();
    eitherTakes();
    Due.end();
  }
}

/** Edges of promises 1, 2, 3 and 18: a new object, types, makers, and sizes of plain values. */
public final class TypeEdgesTest {
  private static final int NONE = Forge.NONE;
  private static final int MIN = Integer.MIN_VALUE;
  private static final int MAX = Integer.MAX_VALUE;

  private static void due(String what, int got, int want) {
    Due.due(what, got, want);
  }

  private static void newObject() {
    Due.promise(1, "the numbers alone");
    Forge x = new Forge();
    x.countsStand();
    due("plain(0)", x.plain(0), 1);
    due("plain(1)", x.plain(1), NONE);
    due("a maker of the numbers", x.maker(0, 0, 0, 0, 0), NONE);
    due("a maker of no type", x.maker(1, 0, 0, 0, 0), NONE);
    due("a value of the numbers by a maker", x.make(0, 0, 0, 0, 0), NONE);
    due("a value of no type", x.make(1, 0, 0, 0, 0), NONE);
    due("ANY of no type", x.any(1, NONE), NONE);
    due("ALSO of no pattern", x.also(0, 0), NONE);
    due("MAKER of no type", x.made(1, 0, 0, 0, 0), NONE);
    due("EITHER of no patterns", x.either(0, 0), NONE);
    due("a match of no type", x.match(1, 1, 0, 0), NONE);
    due("a row of no match", x.row(0, 0, 0, 0, NONE, 0), NONE);
    due("run of no match", x.run(0, 0, 0, 0), NONE);
    due("tree of no match", x.tree(0, 0), NONE);
    due("missing of no match", x.missing(0), NONE);
    due("nothing was told", x.part(0), NONE);
    for (int name = 0; name <= 15; name++) due("took(" + name + ")", x.took(name), NONE);
    due("check()", x.check(), 1);
    x.countsStand();
    firstNumbers(x);
  }

  /** All that was refused made nothing, so everything is numbered from its first number on. */
  private static void firstNumbers(Forge x) {
    due("the first type", x.type(), 1);
    due("the first maker", x.maker(1, 0, 0, 0, 0), 0);
    due("the first value", x.number(5), 0);
    due("the first pattern", x.any(0, NONE), 0);
    due("the first match", x.match(1, 0, 0, 0), 0);
    due("the first row", x.row(0, 0, 0, 0, NONE, 0), 0);
    x.countsStand();
    new Forge().countsStand();
  }

  private static void numbersNeedNoType() {
    Due.promise(1, "a match of the numbers alone");
    Forge x = new Forge();
    due("match", x.match(3, 0, 0, 0), 0);
    due("its tree", x.tree(0, 3), 1);
    due("its missing values", x.missing(0), 3);
    x.partsAre(0, 0, 0);
  }

  private static void types() {
    Due.promise(2, "NONE when there are 7");
    Forge x = new Forge();
    for (int t = 1; t <= 7; t++) {
      due("plain of what is no type yet", x.plain(t), NONE);
      due("type()", x.type(), t);
    }
    due("the eighth", x.type(), NONE);
    due("the eighth again", x.type(), NONE);
    x.countsStand();
    due("plain(8)", x.plain(8), NONE);
    due("a maker of the eighth", x.maker(8, 0, 0, 0, 0), NONE);
    due("a maker with the eighth", x.maker(7, 1, 8, 0, 0), NONE);
    due("a maker of the seventh, with it", x.maker(7, 1, 7, 0, 0), 0);
    due("a maker of the seventh, without", x.maker(7, 0, 0, 0, 0), 1);
    due("ANY of the eighth", x.any(8, NONE), NONE);
    due("ANY of the seventh", x.any(7, NONE), 0);
    due("a value of the seventh", x.make(7, 1, 0, 0, 0), 0);
    x.countsStand();
  }

  private static void typesComeLate() {
    Due.promise(2, "one more type, whatever there is already");
    Forge x = Forge.lists();
    x.number(1);
    x.exactly(1);
    due("a match before", x.match(1, 1, 0, 0), 0);
    due("type() behind a value, a pattern and a match", x.type(), 2);
    due("it has no values", x.plain(2), 0);
    due("no maker comes any more", x.maker(2, 0, 0, 0, 0), NONE);
    due("no match comes any more", x.match(1, 1, 0, 0), NONE);
    due("ANY of it", x.any(2, NONE), 1);
    due("the match of before stands", x.row(0, x.any(1, NONE), 0, 0, NONE, 0), 0);
    due("and its tree", x.tree(0, 2), 1);
    x.countsStand();
  }

  private static void makersOfTypes() {
    Due.promise(3, "NONE when there is no such type, or it is 0");
    Forge x = new Forge();
    for (int t = 1; t <= 6; t++) x.type();
    for (int t : Due.outside(7)) due("maker of type " + t, x.maker(t, 0, 0, 0, 0), NONE);
    due("maker of the numbers", x.maker(0, 0, 0, 0, 0), NONE);
    due("maker of the numbers, of a number", x.maker(0, 1, 0, 0, 0), NONE);
    x.countsStand();
    due("maker of the last type", x.maker(6, 0, 0, 0, 0), 0);
    due("maker of the first type", x.maker(1, 0, 0, 0, 0), 0);
    due("now there is one more type", x.type(), 7);
    due("which has makers as well", x.maker(7, 0, 0, 0, 0), 0);
    x.countsStand();
  }

  private static void makersOfSoMany() {
    Due.promise(3, "NONE when n is not 0 .. 3, or one of those is none");
    Forge x = new Forge();
    x.type();
    x.type();
    for (int n : new int[] {-1, 4, MIN, MAX}) due("n " + n, x.maker(1, n, 0, 0, 0), NONE);
    for (int t : Due.outside(3)) {
      due("the first " + t, x.maker(1, 1, t, 0, 0), NONE);
      due("the first of three " + t, x.maker(1, 3, t, 0, 0), NONE);
      due("the second " + t, x.maker(1, 2, 0, t, 0), NONE);
      due("the third " + t, x.maker(1, 3, 0, 0, t), NONE);
    }
    due("plain(1)", x.plain(1), 0);
    x.countsStand();
    due("of none", x.maker(1, 0, MIN, MAX, -1), 0);
    due("of one", x.maker(1, 1, 2, MAX, 3), 1);
    due("of two", x.maker(1, 2, 0, 2, -1), 2);
    due("of three", x.maker(1, 3, 0, 1, 2), 3);
    due("of itself alone", x.maker(2, 3, 2, 2, 2), 0);
    due("plain(1)", x.plain(1), 1);
    due("plain(2)", x.plain(2), 0);
    x.countsStand();
    partsAreThoseTold(x);
  }

  /** A maker of so many types has just those: too few, or others, make no value. */
  private static void partsAreThoseTold(Forge x) {
    due("a number", x.number(0), 0);
    due("of none", x.make(1, 0, -1, -1, -1), 1);
    due("of two: there is no value of the second", x.make(1, 2, 0, 1, 0), NONE);
    due("of three: nor of the third", x.make(1, 3, 0, 1, 0), NONE);
    due("of one: nor of its own", x.make(1, 1, 1, 0, 0), NONE);
    x.countsStand();
  }

  private static void sixMakers() {
    Due.promise(3, "NONE when there are 6");
    Forge x = new Forge();
    for (int t = 1; t <= 7; t++) x.type();
    for (int t = 7; t >= 1; t--) {
      for (int k = 0; k < 6; k++) due("maker of type " + t, x.maker(t, 0, 0, 0, 0), k);
      due("the seventh of type " + t, x.maker(t, 0, 0, 0, 0), NONE);
    }
    due("count(1)", x.count(1), 42);
    x.countsStand();
    due("the sixth makes", x.make(7, 5, 0, 0, 0), 0);
    due("the seventh does not", x.make(7, 6, 0, 0, 0), NONE);
    due("a match", x.match(3, 1, 4, 7), 0);
    x.countsStand();
  }

  private static void makersComeFirst() {
    Due.promise(3, "NONE when there is a value, pattern or match already");
    Forge refused = Forge.lists();
    due("a value that is none", refused.make(1, 1, 0, 0, 0), NONE);
    due("a pattern that is none", refused.any(2, NONE), NONE);
    due("a pattern that is none", refused.made(1, 1, 0, 0, 0), NONE);
    due("a match that is none", refused.match(4, 0, 0, 0), NONE);
    due("behind what made nothing", refused.maker(1, 0, 0, 0, 0), 2);
    refused.countsStand();
    Forge value = Forge.lists();
    due("a number", value.number(0), 0);
    due("behind it", value.maker(1, 0, 0, 0, 0), NONE);
    value.countsStand();
    Forge made = Forge.lists();
    due("a value that is made", made.make(1, 0, 0, 0, 0), 0);
    due("behind it", made.maker(1, 0, 0, 0, 0), NONE);
    due("its plain value stays", made.plain(1), 1);
    made.countsStand();
    Forge pattern = Forge.lists();
    due("a pattern", pattern.exactly(0), 0);
    due("behind it", pattern.maker(1, 0, 0, 0, 0), NONE);
    pattern.countsStand();
    Forge match = Forge.lists();
    due("a match", match.match(1, 0, 0, 0), 0);
    due("behind it", match.maker(1, 0, 0, 0, 0), NONE);
    match.countsStand();
  }

  private static void plainOfTypes() {
    Due.promise(18, "NONE when there is no such type, 0 when it has no values");
    Forge x = new Forge();
    due("the numbers", x.plain(0), 1);
    for (int t : Due.outside(1)) due("plain(" + t + ")", x.plain(t), NONE);
    for (int t = 1; t <= 7; t++) x.type();
    for (int t : Due.outside(8)) due("plain(" + t + ")", x.plain(t), NONE);
    for (int t = 1; t <= 7; t++) due("without makers, " + t, x.plain(t), 0);
    x.maker(1, 1, 1, 0, 0);
    due("of itself alone", x.plain(1), 0);
    x.maker(2, 1, 3, 0, 0);
    x.maker(3, 1, 2, 0, 0);
    due("of each other", x.plain(2), 0);
    due("of each other", x.plain(3), 0);
    x.maker(3, 2, 0, 1, 0);
    due("one of its types has none", x.plain(3), 0);
    x.maker(1, 2, 0, 0, 0);
    due("now it has", x.plain(1), 3);
    due("and so has that, by it", x.plain(3), 5);
    due("and so has that, by that", x.plain(2), 6);
    due("still none", x.plain(4), 0);
    due("still none", x.plain(7), 0);
    x.maker(4, 1, 7, 0, 0);
    x.maker(4, 2, 2, 0, 0);
    x.maker(4, 2, 0, 7, 0);
    due("by one that has only types that do", x.plain(4), 8);
    due("not by the others", x.plain(7), 0);
  }

  /** The largest there is: each type has three of the one before. */
  private static void plainAtItsLargest() {
    Due.promise(18, "the size of the plain value: the smallest one");
    Forge x = new Forge();
    for (int t = 1; t <= 7; t++) x.type();
    for (int t = 7; t >= 1; t--) due("maker of type " + t, x.maker(t, 3, t - 1, t - 1, t - 1), 0);
    int[] sizes = {1, 4, 13, 40, 121, 364, 1093, 3280};
    for (int t = 0; t <= 7; t++) due("plain(" + t + ")", x.plain(t), sizes[t]);
    x.maker(4, 3, 3, 3, 7);
    due("a larger one does not count", x.plain(4), 121);
    x.maker(4, 2, 3, 3, 0);
    due("a smaller one does", x.plain(4), 81);
    due("and in what is made of it", x.plain(5), 244);
    due("and in what is made of that", x.plain(7), 2200);
    due("a refused maker", x.maker(4, 4, 0, 0, 0), NONE);
    due("changes nothing", x.plain(4), 81);
    x.maker(1, 0, 0, 0, 0);
    int[] small = {1, 1, 4, 13, 27, 82, 247, 742};
    for (int t = 0; t <= 7; t++) due("plain(" + t + ")", x.plain(t), small[t]);
  }

  /** A way through all seven types, told in either order, so that no order of rounds is lucky. */
  private static void plainThroughAllTypes() {
    Due.promise(18, "a type has values if a maker of it has only types that do");
    for (int up = 0; up <= 1; up++) {
      Forge x = new Forge();
      for (int t = 1; t <= 7; t++) x.type();
      for (int t = 1; t <= 6; t++) {
        int from = up == 1 ? t : 8 - t;
        int to = up == 1 ? t + 1 : 7 - t;
        x.maker(from, 1, to, 0, 0);
      }
      for (int t = 1; t <= 7; t++) due("plain(" + t + ") before", x.plain(t), 0);
      x.maker(up == 1 ? 7 : 1, 0, 0, 0, 0);
      for (int t = 1; t <= 7; t++) due("plain(" + t + ")", x.plain(t), up == 1 ? 8 - t : t);
    }
  }

  public static void main(String[] args) {
    newObject();
    numbersNeedNoType();
    types();
    typesComeLate();
    makersOfTypes();
    makersOfSoMany();
    sixMakers();
    makersComeFirst();
    plainOfTypes();
    plainAtItsLargest();
    plainThroughAllTypes();
    Due.end();
  }
}

/** Edges of promises 4 and 5: numbers as values, and values made by makers. */
public final class ValueEdgesTest {
  private static final int NONE = Forge.NONE;
  private static final int MIN = Integer.MIN_VALUE;
  private static final int MAX = Integer.MAX_VALUE;

  private static void due(String what, int got, int want) {
    Due.due(what, got, want);
  }

  private static void anyNumber() {
    Due.promise(4, "a number as a value, whichever it is");
    Forge x = new Forge();
    x.match(1, 0, 0, 0);
    int[] numbers = {0, -1, 1, MIN, MAX, MIN + 1, MAX - 1};
    for (int i = 0; i < numbers.length; i++) {
      due("number(" + numbers[i] + ")", x.number(numbers[i]), i);
      x.row(0, x.exactly(numbers[i]), 0, 0, NONE, 0);
    }
    for (int i = 0; i < numbers.length; i++) due("run of " + numbers[i], x.run(0, i, 0, 0), i);
    due("the same number once more", x.number(0), numbers.length);
    due("takes the same row", x.run(0, numbers.length, 0, 0), 0);
    x.countsStand();
  }

  private static void mostNumbers() {
    Due.promise(4, "NONE when there are 300");
    Forge x = new Forge();
    for (int i = 0; i < 299; i++) due("number(" + i + ")", x.number(i), i);
    x.countsStand();
    due("the 300th", x.number(7), 299);
    due("the 301st", x.number(7), NONE);
    due("the 301st again", x.number(8), NONE);
    x.countsStand();
    due("a pattern is no value", x.any(0, 3), 0);
    due("a match", x.match(1, 0, 0, 0), 0);
    due("a row", x.row(0, 0, 0, 0, NONE, 0), 0);
    due("the last value", x.run(0, 299, 0, 0), 0);
    due("its number", x.took(3), 299);
    due("the one behind it", x.run(0, 300, 0, 0), NONE);
    due("check()", x.check(), 1);
  }

  private static void mostMade() {
    Due.promise(5, "NONE when there are 300");
    Forge x = Forge.lists();
    for (int i = 0; i < 150; i++) due("number(" + i + ")", x.number(i), i);
    for (int i = 150; i < 299; i++) due("the empty list", x.make(1, 0, 0, 0, 0), i);
    due("the 300th", x.make(1, 1, 149, 298, 0), 299);
    due("the 301st", x.make(1, 1, 149, 298, 0), NONE);
    due("the 301st without parts", x.make(1, 0, 0, 0, 0), NONE);
    due("the 301st a number", x.number(0), NONE);
    x.countsStand();
    due("a pattern", x.made(1, 1, x.any(0, 0), x.any(1, 1), 0), 2);
    due("a match", x.match(1, 1, 0, 0), 0);
    due("a row", x.row(0, 2, 0, 0, NONE, 0), 0);
    due("the last value", x.run(0, 299, 0, 0), 0);
    due("its number", x.took(0), 149);
    due("its list", x.took(1), 298);
  }

  /** The 300th value has as many parts as there may be, and a run looks at all of them. */
  private static void theLastWithThreeParts() {
    Due.promise(5, "the 300th value is one like others");
    Forge x = Forge.shapes();
    for (int i = 0; i < 299; i++) x.make(1, 0, 0, 0, 0);
    due("the 300th", x.make(1, 3, 7, 298, 0), 299);
    due("the 301st", x.make(1, 3, 7, 298, 0), NONE);
    x.match(3, 1, 1, 1);
    int parts = x.made(1, 3, x.any(1, 0), x.any(1, 1), x.any(1, 2));
    due("a row", x.row(0, x.any(1, NONE), parts, x.any(1, 3)), 0);
    due("run", x.run(0, 298, 299, 299), 0);
    int[] want = {7, 298, 0, 299};
    for (int name = 0; name < 4; name++) due("took(" + name + ")", x.took(name), want[name]);
    due("check()", x.check(), 1);
    x.countsStand();
  }

  private static void makersThatAreNone() {
    Due.promise(5, "NONE when there is none such");
    Forge x = Forge.lists();
    x.type();
    for (int k = 0; k < 6; k++) x.maker(2, 0, 0, 0, 0);
    for (int t : Due.outside(3)) due("type " + t, x.make(t, 0, 0, 0, 0), NONE);
    for (int k = 0; k <= 5; k++) due("the numbers, maker " + k, x.make(0, k, 0, 0, 0), NONE);
    for (int k : Due.outside(2)) due("maker " + k, x.make(1, k, 0, 0, 0), NONE);
    for (int k : Due.outside(6)) due("maker " + k, x.make(2, k, 0, 0, 0), NONE);
    x.countsStand();
    due("the first maker", x.make(1, 0, 0, 0, 0), 0);
    due("the last maker", x.make(2, 5, 0, 0, 0), 1);
    x.countsStand();
  }

  private static void partsThatAreNone() {
    Due.promise(5, "NONE when one of its values is none of its type");
    Forge x = new Forge();
    x.type();
    x.maker(1, 0, 0, 0, 0);
    x.maker(1, 1, 1, 0, 0);
    x.maker(1, 2, 0, 1, 0);
    x.maker(1, 3, 1, 0, 1);
    due("it is no part of itself", x.make(1, 1, 0, 0, 0), NONE);
    due("a number", x.number(4), 0);
    due("without parts", x.make(1, 0, MIN, MAX, -1), 1);
    for (int v : Due.outside(2)) {
      due("the first " + v, x.make(1, 1, v, 1, 1), NONE);
      due("the second " + v, x.make(1, 2, 0, v, 0), NONE);
      due("the third " + v, x.make(1, 3, 1, 0, v), NONE);
      due("the first of three " + v, x.make(1, 3, v, 0, 1), NONE);
      due("the second of three " + v, x.make(1, 3, 1, v, 1), NONE);
    }
    due("the first of another type", x.make(1, 1, 0, 0, 0), NONE);
    due("the first of another type", x.make(1, 2, 1, 1, 0), NONE);
    due("the second of another type", x.make(1, 2, 0, 0, 0), NONE);
    due("the second of another type", x.make(1, 3, 1, 1, 1), NONE);
    due("the third of another type", x.make(1, 3, 1, 0, 0), NONE);
    x.countsStand();
    due("of one, the others do not matter", x.make(1, 1, 1, MIN, MAX), 2);
    due("of two, the other does not matter", x.make(1, 2, 0, 2, MAX), 3);
    due("of three", x.make(1, 3, 3, 0, 2), 4);
    x.countsStand();
  }

  private static void sizesByOnePart() {
    Due.promise(5, "NONE when it would be too large: over 100");
    Forge x = Forge.shapes();
    for (int size = 1; size <= 100; size++) {
      due("of size " + size, x.make(1, size == 1 ? 0 : 1, size - 2, 0, 0), size - 1);
    }
    due("1 + 100", x.make(1, 1, 99, 0, 0), NONE);
    due("1 + 99 + 1", x.make(1, 2, 98, 0, 0), NONE);
    due("1 + 1 + 99", x.make(1, 2, 0, 98, 0), NONE);
    due("1 + 1 + 1 + 98", x.make(1, 3, 0, 0, 97), NONE);
    due("1 + 50 + 50", x.make(1, 2, 49, 49, 0), NONE);
    due("1 + 33 + 33 + 34", x.make(1, 3, 32, 32, 33), NONE);
    due("1 + 100 + 100 + 100", x.make(1, 3, 99, 99, 99), NONE);
    x.countsStand();
    due("1 + 99", x.make(1, 1, 98, 0, 0), 100);
    due("1 + 98 + 1", x.make(1, 2, 97, 0, 0), 101);
    due("1 + 1 + 98", x.make(1, 2, 0, 97, 0), 102);
    due("1 + 1 + 1 + 97", x.make(1, 3, 0, 0, 96), 103);
    due("1 + 49 + 50", x.make(1, 2, 48, 49, 0), 104);
    due("1 + 33 + 33 + 33", x.make(1, 3, 32, 32, 32), 105);
    for (int v = 99; v <= 105; v++) due("1 + size of " + v, x.make(1, 1, v, 0, 0), NONE);
    x.countsStand();
    runsOfTheLargest(x);
  }

  private static void runsOfTheLargest(Forge x) {
    x.match(1, 1, 0, 0);
    x.row(0, x.made(1, 1, x.any(1, 4), 0, 0), 0, 0, NONE, 0);
    due("a value of size 100", x.run(0, 99, 0, 0), 0);
    due("what it is made of", x.took(4), 98);
    due("another", x.run(0, 105, 0, 0), NONE);
  }

  /** A part that is there twice counts twice, though it is one value. */
  private static void sizesOfPartsTwice() {
    Due.promise(5, "1 and the sizes of the parts, each time");
    Forge x = Forge.shapes();
    x.make(1, 0, 0, 0, 0);
    for (int v = 1; v <= 5; v++) due("twice " + (v - 1), x.make(1, 2, v - 1, v - 1, 0), v);
    due("1 + 63 + 63", x.make(1, 2, 5, 5, 0), NONE);
    due("1 + 63 + 31", x.make(1, 2, 5, 4, 0), 6);
    due("1 + 95 + 3", x.make(1, 2, 6, 1, 0), 7);
    due("1 + 99", x.make(1, 1, 7, 0, 0), 8);
    due("1 + 100", x.make(1, 1, 8, 0, 0), NONE);
    due("1 + 95 + 3 + 1", x.make(1, 3, 6, 1, 0), 9);
    due("1 + 95 + 3 + 3", x.make(1, 3, 6, 1, 1), NONE);
    x.countsStand();
  }

  private static void sizesOfNumbers() {
    Due.promise(5, "a number is of size 1");
    Forge x = Forge.lists();
    x.number(MAX);
    x.make(1, 0, 0, 0, 0);
    for (int v = 2; v <= 50; v++) due("a list of " + (v - 1), x.make(1, 1, 0, v - 1, 0), v);
    due("a list of 50, of size 101", x.make(1, 1, 0, 50, 0), NONE);
    x.countsStand();
    due("a list that is no number", x.make(1, 1, 50, 50, 0), NONE);
    due("a number behind it", x.number(MIN), 51);
    due("1 + 1 + 97", x.make(1, 1, 51, 49, 0), 52);
    due("1 + 1 + 99", x.make(1, 1, 51, 50, 0), NONE);
    x.countsStand();
  }

  public static void main(String[] args) {
    anyNumber();
    mostNumbers();
    mostMade();
    theLastWithThreeParts();
    makersThatAreNone();
    partsThatAreNone();
    sizesByOnePart();
    sizesOfPartsTwice();
    sizesOfNumbers();
    Due.end();
  }
}

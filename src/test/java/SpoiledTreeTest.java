import java.lang.reflect.Field;
import java.util.Arrays;

/**
 * Edges of promise 20 that no call can reach: check() would tell 0 if a tree took another row than
 * the patterns tell. So trees are spoiled from outside, by the names of the program's own fields.
 */
public final class SpoiledTreeTest {
  private static final int NONE = MatchForge.NONE;

  private static void due(String what, int got, int want) {
    Due.due(what, got, want);
  }

  private static Object inside(Object owner, String name) throws ReflectiveOperationException {
    Field field = owner.getClass().getDeclaredField(name);
    field.setAccessible(true);
    return field.get(owner);
  }

  /** From here on the tree of a match takes row 1 wherever it takes one; it must have been made. */
  private static void spoil(MatchForge x, int m) throws ReflectiveOperationException {
    Object match = ((Object[]) inside(x, "matches"))[m];
    Arrays.fill((int[]) inside(inside(match, "tree"), "row"), 1);
  }

  private static MatchForge lists() {
    MatchForge x = new MatchForge();
    x.type();
    x.maker(1, 0, 0, 0, 0);
    x.maker(1, 2, 0, 1, 0);
    return x;
  }

  /** A match of these types with two rows of ANY, so that row 0 is due, and row 1 is spoiled. */
  private static void spoiledMatch(MatchForge x, int... types) throws ReflectiveOperationException {
    int[] given = Arrays.copyOf(types, 3);
    int m = x.match(types.length, given[0], given[1], given[2]);
    int[] any = new int[3];
    for (int i = 0; i < 3; i++) any[i] = x.any(given[i], NONE);
    x.row(m, any[0], any[1], any[2], NONE, 0);
    x.row(m, any[0], any[1], any[2], NONE, 0);
    due("its tree", x.tree(m, 4), 1);
    spoil(x, m);
  }

  private static void lastThirty() throws ReflectiveOperationException {
    Due.promise(20, "it would tell 0, for each of the last thirty values");
    for (int earlier = 0; earlier <= 3; earlier++) {
      MatchForge x = lists();
      spoiledMatch(x, 1);
      for (int i = 0; i < earlier; i++) x.number(i);
      due("no value of its type", x.check(), 1);
      x.make(1, 0, 0, 0, 0);
      due("the last value tells it", x.check(), 0);
      for (int i = 0; i < 29; i++) x.number(i);
      due("the thirtieth from the end tells it", x.check(), 0);
      x.number(1);
      due("the one before does not", x.check(), 1);
      x.make(1, 0, 0, 0, 0);
      due("a new one does", x.check(), 0);
    }
  }

  private static void typesAsTheValues() throws ReflectiveOperationException {
    Due.promise(20, "it would tell 0, for each match that has types as the value's");
    int[][] alike = {{0}, {1}, {0, 0}, {1, 1}, {0, 0, 0}, {1, 1, 1}};
    for (int[] types : alike) {
      for (int made = 0; made <= 1; made++) {
        MatchForge x = lists();
        spoiledMatch(x, types);
        if (made == 0) x.number(4); else x.make(1, 0, 0, 0, 0);
        due(Arrays.toString(types) + ", a value of type " + made, x.check(), made == types[0] ? 0 : 1);
      }
    }
    int[][] unlike = {{0, 1}, {1, 0}, {0, 0, 1}, {0, 1, 0}, {1, 0, 0}, {1, 1, 0}, {0, 1, 1}};
    for (int[] types : unlike) {
      MatchForge x = lists();
      spoiledMatch(x, types);
      x.number(4);
      x.make(1, 0, 0, 0, 0);
      due(Arrays.toString(types), x.check(), 1);
    }
  }

  private static void eachMatch() throws ReflectiveOperationException {
    Due.promise(20, "it would tell 0, whichever match it is");
    for (int bad = 0; bad < 20; bad++) {
      MatchForge x = new MatchForge();
      x.number(4);
      for (int m = 0; m < bad; m++) x.match(1, 0, 0, 0);
      spoiledMatch(x, 0);
      for (int m = bad + 1; m < 20; m++) x.match(1, 0, 0, 0);
      due("match " + bad, x.check(), 0);
    }
  }

  /** Row 1 is the one that the patterns tell, so what is spoiled is right. */
  private static void whatPatternsTell() throws ReflectiveOperationException {
    Due.promise(20, "the row that patterns tell");
    MatchForge x = lists();
    int number = x.any(0, NONE);
    int list = x.any(1, NONE);
    int twoNumbers = x.made(1, 1, x.any(0, 0), x.made(1, 1, x.also(1, number), list, 0), 0);
    int someNumber = x.either(x.exactly(3), x.exactly(4));
    x.match(2, 1, 1, 0);
    x.row(0, twoNumbers, list, 0, 0, 1);
    x.row(0, x.made(1, 1, someNumber, x.also(5, list), 0), list, 0, NONE, 0);
    x.row(0, list, x.any(1, 7), 0, NONE, 0);
    int[] values = {x.number(4), x.number(3), x.number(5), x.make(1, 0, 0, 0, 0)};
    x.make(1, 1, values[0], values[3], 0);
    x.make(1, 1, values[1], values[3], 0);
    due("not spoiled", x.check(), 1);
    spoil(x, 0);
    due("the empty list takes row 2", x.check(), 0);
    for (int i = 0; i < 28; i++) x.number(i);
    due("lists of 4 and of 3 take row 1", x.check(), 1);
    x.make(1, 1, values[0], 5, 0);
    due("a list of 4 and 3 does too", x.check(), 1);
    x.make(1, 1, values[0], 4, 0);
    due("a list of 4 and 4 does too", x.check(), 1);
    int risen = x.make(1, 1, values[1], 4, 0);
    due("a list of 3 and 4 takes row 0", x.check(), 0);
    for (int i = 0; i < 30; i++) x.number(risen);
    due("without it", x.check(), 1);
    x.make(1, 1, values[2], values[3], 0);
    due("a list of 5 takes row 2", x.check(), 0);
  }

  private static void theLatestRunStays() throws ReflectiveOperationException {
    Due.promise(20, "the latest run stays");
    MatchForge x = lists();
    int named = x.any(0, 3);
    x.match(1, 0, 0, 0);
    x.row(0, named, 0, 0, NONE, 0);
    x.number(8);
    x.number(9);
    spoiledMatch(x, 0, 0);
    due("a run", x.run(0, 0, 0, 0), 0);
    due("check()", x.check(), 0);
    due("took(3)", x.took(3), 0);
    due("took(16)", x.took(16), 0);
    due("a run without such a value", x.run(0, 2, 0, 0), NONE);
    due("check()", x.check(), 0);
    due("took(3)", x.took(3), NONE);
  }

  /** A new row makes the tree anew, so nothing spoiled is left. */
  private static void aNewRowMendsIt() throws ReflectiveOperationException {
    Due.promise(20, "it tells 1 of the tree as it is");
    MatchForge x = new MatchForge();
    x.number(8);
    spoiledMatch(x, 0);
    due("spoiled", x.check(), 0);
    x.row(0, x.any(0, NONE), 0, 0, NONE, 0);
    due("made anew", x.check(), 1);
  }

  public static void main(String[] args) {
    try {
      lastThirty();
      typesAsTheValues();
      eachMatch();
      whatPatternsTell();
      theLatestRunStays();
      aNewRowMendsIt();
    } catch (ReflectiveOperationException e) {
      // What a program holds inside is free: another one keeps the promise without these fields.
      System.out.println("not asked, since there is no such tree to spoil: " + e);
    }
    Due.end();
  }
}

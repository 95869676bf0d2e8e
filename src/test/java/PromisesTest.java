/** For each promise of the document: ordinary inputs, the edges that it names, and wrong inputs. */
public final class PromisesTest {
  private static final int NONE = Forge.NONE;
  private static final int FULL = Forge.FULL;

  private static void due(String what, int got, int want) {
    Due.due(what, got, want);
  }

  private static void counts(Forge x, int... want) {
    for (int i = 0; i < want.length; i++) due("count(" + i + ")", x.count(i), want[i]);
  }

  private static void newObject() {
    Due.promise(1, "in all");
    Forge x = new Forge();
    counts(x, 1, 0, 0, 0, 0, 0);
    due("plain(0)", x.plain(0), 1);
    due("plain(1)", x.plain(1), NONE);
    due("tree(0, 0)", x.tree(0, 0), NONE);
    due("missing(0)", x.missing(0), NONE);
    due("run(0, 0, 0, 0)", x.run(0, 0, 0, 0), NONE);
    due("part(0)", x.part(0), NONE);
    due("check()", x.check(), 1);
    Forge y = new Forge();
    y.type();
    y.number(1);
    counts(x, 1, 0, 0, 0, 0, 0);
    for (int name = 0; name < 16; name++) due("took(" + name + ")", x.took(name), NONE);
    due("took(16) before a run", new Forge().took(16), 0);
    due("took(17) before a run", new Forge().took(17), 0);
  }

  private static void type() {
    Due.promise(2, "in all");
    Forge x = new Forge();
    for (int i = 1; i <= 7; i++) due("type()", x.type(), i);
    due("the eighth type()", x.type(), NONE);
    due("count(0)", x.count(0), 8);
    Forge y = new Forge();
    y.number(1);
    y.any(0, NONE);
    y.match(1, 0, 0, 0);
    due("type() after a value, a pattern and a match", y.type(), 1);
  }

  private static void maker() {
    Due.promise(3, "in all");
    Forge x = new Forge();
    x.type();
    x.type();
    due("of a type without makers", x.maker(1, 3, 2, 0, 1), 0);
    due("of no types", x.maker(1, 0, 99, -5, 77), 1);
    due("of one type", x.maker(1, 1, 2, -5, 77), 2);
    due("of two types", x.maker(1, 2, 2, 0, 77), 3);
    due("a type's own numbers", x.maker(2, 0, 0, 0, 0), 0);
    due("no such type", x.maker(3, 0, 0, 0, 0), NONE);
    due("no such type", x.maker(-1, 0, 0, 0, 0), NONE);
    due("the numbers", x.maker(0, 0, 0, 0, 0), NONE);
    due("n -1", x.maker(1, -1, 0, 0, 0), NONE);
    due("n 4", x.maker(1, 4, 0, 0, 0), NONE);
    due("the first is none", x.maker(1, 1, 3, 0, 0), NONE);
    due("the second is none", x.maker(1, 2, 0, -1, 0), NONE);
    due("the third is none", x.maker(1, 3, 0, 0, 3), NONE);
    counts(x, 3, 5);
    due("the fifth", x.maker(1, 0, 0, 0, 0), 4);
    due("the sixth", x.maker(1, 0, 0, 0, 0), 5);
    due("the seventh", x.maker(1, 0, 0, 0, 0), NONE);
    due("of another type", x.maker(2, 0, 0, 0, 0), 1);
    counts(x, 3, 8);
    Forge value = Forge.lists();
    value.number(4);
    due("after a value", value.maker(1, 0, 0, 0, 0), NONE);
    Forge pattern = Forge.lists();
    pattern.any(1, NONE);
    due("after a pattern", pattern.maker(1, 0, 0, 0, 0), NONE);
    Forge match = Forge.lists();
    match.match(1, 1, 0, 0);
    due("after a match", match.maker(1, 0, 0, 0, 0), NONE);
    Forge refused = Forge.lists();
    refused.make(1, 1, 0, 0, 0);
    refused.any(9, NONE);
    refused.match(0, 0, 0, 0);
    due("after what was refused", refused.maker(1, 0, 0, 0, 0), 2);
  }

  private static void number() {
    Due.promise(4, "in all");
    Forge x = new Forge();
    due("number(MIN)", x.number(Integer.MIN_VALUE), 0);
    due("number(MAX)", x.number(Integer.MAX_VALUE), 1);
    for (int i = 2; i < 300; i++) due("number(7)", x.number(7), i);
    due("the 301st", x.number(7), NONE);
    due("count(2)", x.count(2), 300);
    x.match(1, 0, 0, 0);
    x.row(0, x.exactly(Integer.MIN_VALUE), 0, 0, NONE, 0);
    due("MIN", x.run(0, 0, 0, 0), 0);
    due("MAX", x.run(0, 1, 0, 0), NONE);
  }

  private static void make() {
    Due.promise(5, "in all");
    Forge x = Forge.lists();
    x.number(5);
    due("the empty list", x.make(1, 0, 99, -3, 7), 1);
    due("a list of one", x.make(1, 1, 0, 1, 99), 2);
    due("no such type", x.make(2, 0, 0, 1, 0), NONE);
    due("no such type", x.make(-1, 0, 0, 1, 0), NONE);
    due("the numbers", x.make(0, 0, 0, 0, 0), NONE);
    due("no such maker", x.make(1, 2, 0, 1, 0), NONE);
    due("no such maker", x.make(1, -1, 0, 1, 0), NONE);
    due("a value of another type", x.make(1, 1, 1, 1, 0), NONE);
    due("a value of another type", x.make(1, 1, 0, 0, 0), NONE);
    due("no such value", x.make(1, 1, 3, 1, 0), NONE);
    due("no such value", x.make(1, 1, -1, 1, 0), NONE);
    due("no such value", x.make(1, 1, 0, 3, 0), NONE);
    int v = 2;
    for (int size = 5; size <= 99; size += 2) v = x.make(1, 1, 0, v, 0);
    due("of size 99", v, 50);
    due("of size 101", x.make(1, 1, 0, v, 0), NONE);
    due("count(2)", x.count(2), 51);
    Forge y = new Forge();
    y.type();
    y.maker(1, 0, 0, 0, 0);
    y.maker(1, 1, 1, 0, 0);
    int w = y.make(1, 0, 0, 0, 0);
    for (int size = 2; size <= 100; size++) w = y.make(1, 1, w, 0, 0);
    due("of size 100", w, 99);
    due("of size 101", y.make(1, 1, w, 0, 0), NONE);
    for (int i = 100; i < 300; i++) due("make(1, 0, ..)", y.make(1, 0, 0, 0, 0), i);
    due("the 301st", y.make(1, 0, 0, 0, 0), NONE);
    due("the 301st", y.number(0), NONE);
  }

  private static void any() {
    Due.promise(6, "in all");
    Forge x = Forge.lists();
    due("ANY of the numbers", x.any(0, NONE), 0);
    due("ANY of a type", x.any(1, NONE), 1);
    due("name 0", x.any(1, 0), 2);
    due("name 15", x.any(0, 15), 3);
    due("name 16", x.any(0, 16), NONE);
    due("name -2", x.any(0, -2), NONE);
    due("no such type", x.any(2, NONE), NONE);
    due("no such type", x.any(-1, 0), NONE);
    due("count(3)", x.count(3), 4);
    Forge y = new Forge();
    y.type();
    due("of a type without values", y.any(1, NONE), 0);
    for (int i = 1; i < 300; i++) due("any(0, 1)", y.any(0, 1), i);
    due("the 301st", y.any(0, 1), NONE);
    due("the 301st", y.any(0, NONE), NONE);
    x.match(1, 1, 0, 0);
    x.row(0, 2, 0, 0, NONE, 0);
    int v = x.make(1, 0, 0, 0, 0);
    due("a name matches all", x.run(0, v, 0, 0), 0);
    due("and stands for it", x.took(0), v);
  }

  private static void also() {
    Due.promise(7, "in all");
    Forge x = new Forge();
    x.exactly(4);
    due("also(3, ..)", x.also(3, 0), 1);
    due("twice", x.also(15, 1), 2);
    due("it has the name", x.also(3, 1), NONE);
    due("it has the name deeper", x.also(3, 2), NONE);
    due("name 16", x.also(16, 0), NONE);
    due("name -1", x.also(NONE, 0), NONE);
    due("no such pattern", x.also(0, 3), NONE);
    due("no such pattern", x.also(0, -1), NONE);
    due("a NAME", x.also(0, x.any(0, 1)), 4);
    due("a NAME of the same name", x.also(1, 3), NONE);
    x.match(1, 0, 0, 0);
    x.row(0, 2, 0, 0, 3, 15);
    x.row(0, 2, 0, 0, NONE, 0);
    x.row(0, 4, 0, 0, NONE, 0);
    x.number(4);
    x.number(6);
    due("as the pattern", x.run(0, 0, 0, 0), 1);
    due("a name", x.took(3), 0);
    due("the other name", x.took(15), 0);
    due("not as the pattern", x.run(0, 1, 0, 0), 2);
    due("a name", x.took(0), 1);
    due("a NAME in it", x.took(1), 1);
    due("a name of another row", x.took(3), NONE);
    int large = x.oneOf(10, 20);
    due("of size 40", x.also(0, large), x.count(3) - 1);
    due("of size 41", x.also(1, x.count(3) - 1), NONE);
    for (int i = x.count(3); i < 300; i++) x.exactly(0);
    due("the 301st", x.also(0, 0), NONE);
  }

  private static void exactly() {
    Due.promise(8, "in all");
    Forge x = new Forge();
    due("exactly(MIN)", x.exactly(Integer.MIN_VALUE), 0);
    due("exactly(-2)", x.exactly(-2), 1);
    x.match(1, 0, 0, 0);
    x.row(0, 1, 0, 0, NONE, 0);
    x.row(0, 0, 0, 0, NONE, 0);
    x.number(-2);
    x.number(Integer.MIN_VALUE);
    x.number(2);
    due("run of -2", x.run(0, 0, 0, 0), 0);
    due("run of MIN", x.run(0, 1, 0, 0), 1);
    due("run of 2", x.run(0, 2, 0, 0), NONE);
    for (int i = 2; i < 300; i++) due("exactly(0)", x.exactly(0), i);
    due("the 301st", x.exactly(0), NONE);
  }

  private static void made() {
    Due.promise(9, "in all");
    Forge x = Forge.lists();
    x.any(0, 3);
    x.any(1, 4);
    x.any(1, 3);
    due("the empty list", x.made(1, 0, 99, -3, 7), 3);
    due("number and list", x.made(1, 1, 0, 1, 99), 4);
    due("a name in common", x.made(1, 1, 0, 2, 0), NONE);
    due("a name in common deeper", x.made(1, 1, 0, 4, 0), NONE);
    due("names apart", x.made(1, 1, x.any(0, 5), 4, 0), 6);
    due("no such type", x.made(2, 0, 0, 1, 0), NONE);
    due("no such type", x.made(-1, 0, 0, 1, 0), NONE);
    due("the numbers", x.made(0, 0, 0, 1, 0), NONE);
    due("no such maker", x.made(1, 2, 0, 1, 0), NONE);
    due("no such maker", x.made(1, -1, 0, 1, 0), NONE);
    due("a pattern of another type", x.made(1, 1, 1, 1, 0), NONE);
    due("a pattern of another type", x.made(1, 1, 0, 0, 0), NONE);
    due("no such pattern", x.made(1, 1, 7, 1, 0), NONE);
    due("no such pattern", x.made(1, 1, 0, -1, 0), NONE);
    x.match(1, 1, 0, 0);
    x.row(0, 6, 0, 0, NONE, 0);
    x.number(8);
    x.number(9);
    x.make(1, 0, 0, 0, 0);
    x.make(1, 1, 1, 2, 0);
    x.make(1, 1, 0, 3, 0);
    due("a list of two", x.run(0, 4, 0, 0), 0);
    due("its first", x.took(5), 0);
    due("its second", x.took(3), 1);
    due("its rest", x.took(4), 2);
    due("a list of one", x.run(0, 3, 0, 0), NONE);
    int any = x.any(0, NONE);
    int p = x.any(1, NONE);
    for (int size = 3; size <= 39; size += 2) p = x.made(1, 1, any, p, 0);
    due("of size 39", p, x.count(3) - 1);
    due("of size 41", x.made(1, 1, any, p, 0), NONE);
    due("of size 41 again", x.also(1, x.also(0, p)), NONE);
    for (int i = x.count(3); i < 300; i++) x.exactly(0);
    due("the 301st", x.made(1, 0, 0, 0, 0), NONE);
  }

  private static void either() {
    Due.promise(10, "in all");
    Forge x = Forge.lists();
    x.exactly(1);
    x.exactly(2);
    x.any(0, 7);
    x.also(7, 0);
    x.any(1, 7);
    due("either(0, 1)", x.either(0, 1), 5);
    due("a pattern twice", x.either(0, 0), 6);
    due("the same names", x.either(3, 2), 7);
    due("other names", x.either(0, 2), NONE);
    due("another type", x.either(2, 4), NONE);
    due("no such patterns", x.either(8, 0), NONE);
    due("no such patterns", x.either(0, 8), NONE);
    due("no such patterns", x.either(-1, 0), NONE);
    due("no such patterns", x.either(0, -1), NONE);
    x.any(0, 6);
    due("as many names, but others", x.either(2, 8), NONE);
    due("of size 39", x.either(x.oneOf(0, 9), x.oneOf(0, 11)), x.count(3) - 1);
    due("of size 41", x.either(x.count(3) - 1, 0), NONE);
    for (int i = x.count(3); i < 300; i++) x.exactly(0);
    due("the 301st", x.either(0, 1), NONE);

    Forge y = Forge.lists();
    int head = y.made(1, 1, y.any(0, 2), y.any(1, NONE), 0);
    int second = y.made(1, 1, y.any(0, NONE), y.made(1, 1, y.any(0, 2), y.any(1, NONE), 0), 0);
    y.match(1, 1, 0, 0);
    y.match(1, 1, 0, 0);
    y.row(0, y.either(head, second), 0, 0, NONE, 0);
    y.row(1, y.either(second, head), 0, 0, NONE, 0);
    y.number(8);
    y.number(9);
    y.make(1, 0, 0, 0, 0);
    y.make(1, 1, 1, 2, 0);
    y.make(1, 1, 0, 3, 0);
    due("the first one matches", y.run(0, 4, 0, 0), 0);
    due("its name", y.took(2), 0);
    due("the first one matches", y.run(1, 4, 0, 0), 0);
    due("its name", y.took(2), 1);
    due("the second one matches", y.run(1, 3, 0, 0), 0);
    due("its name", y.took(2), 1);
    due("none matches", y.run(1, 2, 0, 0), NONE);
  }

  private static void match() {
    Due.promise(11, "in all");
    Forge x = Forge.lists();
    due("one type", x.match(1, 1, 99, 99), 0);
    due("two types", x.match(2, 0, 1, -7), 1);
    due("three types", x.match(3, 0, 1, 0), 2);
    due("n 0", x.match(0, 0, 0, 0), NONE);
    due("n 4", x.match(4, 0, 0, 0), NONE);
    due("n -1", x.match(-1, 0, 0, 0), NONE);
    due("the first is none", x.match(1, 2, 0, 0), NONE);
    due("the second is none", x.match(2, 0, -1, 0), NONE);
    due("the third is none", x.match(3, 0, 0, 2), NONE);
    x.treeIs(2, 0, 0, 0, 1, 0);
    for (int i = 3; i < 20; i++) due("match(1, 0, ..)", x.match(1, 0, 0, 0), i);
    due("the 21st", x.match(1, 0, 0, 0), NONE);
    due("count(4)", x.count(4), 20);
    Forge y = Forge.lists();
    due("match", y.match(1, 0, 0, 0), 0);
    y.type();
    due("another type has no values", y.match(1, 0, 0, 0), NONE);
    due("the old one stands", y.missing(0), 1);
    Forge z = new Forge();
    z.type();
    z.type();
    z.maker(1, 1, 2, 0, 0);
    z.maker(2, 1, 1, 0, 0);
    due("types that only have each other", z.match(1, 0, 0, 0), NONE);
    z.maker(2, 1, 0, 0, 0);
    due("types that have values", z.match(1, 0, 0, 0), 0);
  }

  private static void row() {
    Due.promise(12, "in all");
    Forge x = Forge.lists();
    int any = x.any(0, NONE);
    int name0 = x.any(0, 0);
    int name1 = x.any(0, 1);
    int list2 = x.any(1, 2);
    int four = x.also(3, x.exactly(4));
    int forked = x.either(x.exactly(5), x.exactly(6));
    int pair = x.made(1, 1, name0, list2, 0);
    int deep = x.made(1, 1, forked, x.any(1, NONE), 0);
    x.match(2, 0, 1, 0);
    x.match(3, 0, 0, 0);
    due("without a guard", x.row(0, name1, pair, 99, NONE, 77), 0);
    due("with a guard", x.row(0, name1, pair, 99, 1, 0), 1);
    due("with one name twice", x.row(0, name1, pair, 0, 0, 0), 2);
    due("of another match", x.row(1, name0, name1, four, 3, 1), 0);
    due("no such match", x.row(2, name0, name1, any, NONE, 0), NONE);
    due("no such match", x.row(-1, name0, name1, any, NONE, 0), NONE);
    due("of another type", x.row(0, name1, name0, 0, NONE, 0), NONE);
    due("of another type", x.row(0, list2, pair, 0, NONE, 0), NONE);
    due("no such pattern", x.row(1, name0, name1, 99, NONE, 0), NONE);
    due("no such pattern", x.row(1, -1, name1, any, NONE, 0), NONE);
    due("a name in common", x.row(0, name0, pair, 0, NONE, 0), NONE);
    due("a name in common", x.row(1, any, name1, name1, NONE, 0), NONE);
    due("the first name is none of theirs", x.row(0, name1, pair, 0, 4, 1), NONE);
    due("the second name is none of theirs", x.row(0, name1, pair, 0, 1, 4), NONE);
    due("the second name is NONE", x.row(0, name1, pair, 0, 1, NONE), NONE);
    due("names that there are not", x.row(0, name1, pair, 0, -2, 1), NONE);
    due("names that there are not", x.row(0, name1, pair, 0, 16, 1), NONE);
    due("names that there are not", x.row(0, name1, pair, 0, 32, 33), NONE);
    due("a name that stands for a list", x.row(0, name1, pair, 0, 2, 1), NONE);
    due("a name that stands for a list", x.row(0, name1, pair, 0, 1, 2), NONE);
    due("EITHER without a guard", x.row(0, forked, pair, 0, NONE, 0), 3);
    due("EITHER with a guard", x.row(1, forked, name0, name1, 0, 1), NONE);
    due("EITHER deep, with a guard", x.row(0, name1, deep, 0, 1, 1), NONE);
    due("EITHER that is none of theirs", x.row(0, name1, pair, forked, 1, 0), 4);
    for (int i = 5; i < 12; i++) due("row", x.row(0, any, pair, 0, NONE, 0), i);
    due("the 13th", x.row(0, any, pair, 0, NONE, 0), NONE);
    counts(x, 2, 2, 0, 12, 2, 13);
  }

  private static void run() {
    Due.promise(13, "in all");
    Forge x = Forge.lists();
    x.match(2, 0, 0, 0);
    x.match(1, 1, 0, 0);
    x.row(0, x.any(0, 3), x.any(0, 4), 0, 3, 4);
    x.row(0, x.exactly(5), x.any(0, 4), 0, NONE, 0);
    int small = x.number(-5);
    int large = x.number(5);
    int list = x.make(1, 0, 0, 0, 0);
    due("the guard holds", x.run(0, small, large, 99), 0);
    due("it does not hold", x.run(0, large, small, 99), 1);
    due("not when they are equal", x.run(0, large, large, 99), 1);
    due("no row", x.run(0, small, small, 99), NONE);
    due("without rows", x.run(1, list, 0, 0), NONE);
    due("no such match", x.run(2, small, small, 0), NONE);
    due("no such match", x.run(-1, small, small, 0), NONE);
    due("no such value", x.run(0, small, 3, 0), NONE);
    due("no such value", x.run(0, -1, small, 0), NONE);
    due("a value of another type", x.run(0, small, list, 0), NONE);
    due("a value of another type", x.run(1, small, 0, 0), NONE);
    due("a row that comes later", x.row(0, x.any(0, NONE), x.any(0, NONE), 0, NONE, 0), 2);
    due("is looked at", x.run(0, small, small, 0), 2);
    Forge y = Forge.grid(9, 9);
    y.number(0);
    y.number(100);
    due("of 120", y.run(0, 0, 1, 0), 1);
    y.row(0, y.exactly(0), y.exactly(777), 0, NONE, 0);
    due("of 121", y.run(0, 0, 1, 0), FULL);
    due("of 121, without such a value", y.run(0, 0, 2, 0), NONE);
  }

  private static void took() {
    Due.promise(14, "in all");
    Forge x = Forge.lists();
    x.match(2, 0, 1, 0);
    int pair = x.made(1, 1, x.any(0, 1), x.any(1, 15), 0);
    x.row(0, x.any(0, 0), x.also(2, pair), 0, 0, 1);
    x.row(0, x.any(0, 1), pair, 0, NONE, 0);
    x.row(0, x.any(0, 7), x.also(8, pair), 0, NONE, 0);
    x.number(3);
    x.number(3);
    x.number(4);
    x.make(1, 0, 0, 0, 0);
    x.make(1, 1, 2, 3, 0);
    x.make(1, 1, 0, 3, 0);
    due("the rows that names tell", x.count(5), 2);
    due("run", x.run(0, 1, 4, 0), 0);
    due("took(0)", x.took(0), 1);
    due("took(1)", x.took(1), 2);
    due("took(2)", x.took(2), 4);
    due("took(15)", x.took(15), 3);
    due("took(3)", x.took(3), NONE);
    due("took(16)", x.took(16), 1);
    due("took(17)", x.took(17), 1);
    due("took(18)", x.took(18), NONE);
    due("took(-1)", x.took(-1), NONE);
    due("run", x.run(0, 1, 5, 0), 1);
    due("a name of a row whose guard does not hold", x.took(0), NONE);
    due("took(8)", x.took(8), 5);
    due("took(7)", x.took(7), 1);
    due("took(1)", x.took(1), 0);
    due("took(17)", x.took(17), 1);
    due("no row", x.run(0, 1, 3, 0), NONE);
    due("a name", x.took(7), NONE);
    due("took(16)", x.took(16), 1);
    due("took(17)", x.took(17), 0);
    x.run(0, 1, 5, 0);
    due("no such match", x.run(1, 0, 0, 0), NONE);
    due("took(7)", x.took(7), NONE);
    due("took(16)", x.took(16), 0);
    due("took(17)", x.took(17), 0);
    x.run(0, 1, 5, 0);
    due("no such value", x.run(0, 1, 99, 0), NONE);
    due("took(8)", x.took(8), NONE);
    due("took(16)", x.took(16), 0);
    x.run(0, 1, 5, 0);
    x.match(2, 0, 0, 0);
    x.row(1, x.oneOf(0, 14), x.any(0, NONE), 0, NONE, 0);
    for (int i = 0; i < 11; i++) x.row(1, x.exactly(100 + i), x.any(0, NONE), 0, NONE, 0);
    due("a run that is FULL", x.run(1, 0, 0, 0), FULL);
    due("the latest before it", x.took(8), 5);
    due("the latest before it", x.took(16), 1);
    due("the latest before it", x.took(17), 1);
  }

  private static void tree() {
    Due.promise(15, "in all");
    Forge x = Forge.lists();
    x.match(2, 1, 1, 0);
    x.treeIs(0, 0, 0, 0, 1, 0);
    int any = x.any(1, NONE);
    int empty = x.made(1, 0, 0, 0, 0);
    int pair = x.made(1, 1, x.any(0, 0), any, 0);
    x.row(0, any, empty, 0, NONE, 0);
    x.treeIs(0, 1, 0, 1, 1, 1);
    x.row(0, pair, any, 0, 0, 0);
    x.treeIs(0, 2, 1, 1, 2, 3);
    x.row(0, empty, empty, 0, NONE, 0);
    x.treeIs(0, 2, 1, 1, 2, 3);
    x.row(0, any, any, 0, NONE, 0);
    x.treeIs(0, 2, 1, 3, 0, 11);
    due("no such number", x.tree(0, 5), NONE);
    due("no such number", x.tree(0, -1), NONE);
    due("no such match", x.tree(1, 0), NONE);
    due("no such match", x.tree(-1, 0), NONE);
    treeSizes();
    treeTogether();
    treeStartsOver();
  }

  private static void treeSizes() {
    Forge y = Forge.grid(9, 9);
    y.treeIs(0, 11, 0, 99, 10, 1023);
    y.row(0, y.exactly(0), y.exactly(777), 0, NONE, 0);
    y.treeIs(0, FULL, FULL, FULL, FULL, FULL, NONE, NONE);
    due("a number that is none, of a tree too large", y.tree(0, -1), NONE);
    Forge z = Forge.grid(9, 9);
    z.row(0, z.any(0, 0), z.any(0, 1), 0, 0, 1);
    z.treeIs(0, FULL, FULL, FULL, FULL, FULL);
    Forge w = Forge.grid(8, 9);
    w.row(0, w.any(0, 0), w.any(0, 1), 0, 0, 1);
    w.treeIs(0, 10, 9, 89, 9, 2047);
  }

  private static void treeTogether() {
    for (int n = 12; n <= 14; n++) {
      Forge x = new Forge();
      x.match(1, 0, 0, 0);
      for (int i = 0; i < 11; i++) x.row(0, x.exactly(100 + i), 0, 0, NONE, 0);
      x.row(0, x.oneOf(0, n), 0, 0, NONE, 0);
      due("11 rows and " + n, x.tree(0, 2), 11 + n <= 24 ? 11 + n : FULL);
      Forge y = new Forge();
      y.match(1, 0, 0, 0);
      y.row(0, y.oneOf(0, n), 0, 0, NONE, 0);
      for (int i = 0; i < 11; i++) y.row(0, y.exactly(100 + i), 0, 0, NONE, 0);
      due(n + " and 11 rows", y.tree(0, 2), 11 + n <= 24 ? 11 + n : FULL);
    }
    Forge x = new Forge();
    x.match(2, 0, 0, 0);
    x.row(0, x.any(0, NONE), x.exactly(1), 0, NONE, 0);
    x.row(0, x.oneOf(0, 20), x.exactly(1), 0, NONE, 0);
    x.row(0, x.oneOf(0, 20), x.exactly(1), 0, NONE, 0);
    x.treeIs(0, 1, 0, 1, 1, 1);
  }

  /** The first half of an EITHER may have ANY at the place: then another place counts. */
  private static void treeStartsOver() {
    Forge x = new Forge();
    x.match(2, 0, 0, 0);
    int any = x.any(0, NONE);
    x.row(0, x.either(any, x.exactly(1)), x.exactly(2), 0, NONE, 0);
    x.treeIs(0, 1, 0, 1, 1, 1);
    x.row(0, x.exactly(1), any, 0, NONE, 0);
    x.treeIs(0, 2, 0, 2, 1, 3);
    x.row(0, x.either(any, any), x.either(any, any), 0, NONE, 0);
    x.treeIs(0, 2, 0, 3, 0, 7);
    x.number(1);
    x.number(2);
    x.number(3);
    due("run", x.run(0, 0, 1, 0), 0);
    due("one test is enough", x.took(16), 1);
    due("run", x.run(0, 0, 2, 0), 1);
    due("two tests", x.took(16), 2);
    due("run", x.run(0, 2, 2, 0), 2);
  }

  private static void missing() {
    Due.promise(16, "in all");
    Forge x = Forge.lists();
    x.match(2, 0, 1, 0);
    due("without rows", x.missing(0), 2);
    x.partsAre(0, 0);
    int pair = x.made(1, 1, x.exactly(0), x.any(1, NONE), 0);
    x.row(0, x.exactly(1), x.any(1, NONE), 0, NONE, 0);
    due("for others", x.missing(0), 2);
    x.partsAre(0, 0);
    x.row(0, x.exactly(0), x.made(1, 0, 0, 0, 0), 0, NONE, 0);
    due("others last", x.missing(0), 4);
    x.partsAre(0, 1, 0, 0);
    x.row(0, x.exactly(0), pair, 0, NONE, 0);
    due("a number in a list", x.missing(0), 4);
    x.partsAre(0, 1, 1, 0);
    x.row(0, x.any(0, 0), x.made(1, 1, x.any(0, 1), x.any(1, NONE), 0), 0, 0, 1);
    due("behind a question", x.missing(0), 4);
    x.partsAre(0, 1, 1, 0);
    x.row(0, x.exactly(0), x.any(1, NONE), 0, NONE, 0);
    due("others at last", x.missing(0), 4);
    x.partsAre(2, 1, 0, 0);
    x.row(0, x.any(0, 0), x.any(1, NONE), 0, NONE, 0);
    due("none are missing", x.missing(0), 0);
    x.partsAre();
    due("no such match", x.missing(1), NONE);
    due("no such match", x.missing(-1), NONE);
    missingNumbers();
    missingMakers();
    missingMany();
  }

  private static void missingNumbers() {
    Forge x = new Forge();
    x.match(1, 0, 0, 0);
    int[] numbers = {5, 3, Integer.MIN_VALUE, 0, 1, Integer.MAX_VALUE, -1, 2, 4};
    int[] least = {0, 0, 0, 1, 2, 2, 2, 4, 6};
    for (int i = 0; i < numbers.length; i++) {
      x.row(0, x.exactly(numbers[i]), 0, 0, NONE, 0);
      due("of numbers", x.missing(0), 1);
      x.partsAre(least[i]);
    }
  }

  private static void missingMakers() {
    Forge x = new Forge();
    x.type();
    x.type();
    x.maker(1, 2, 2, 0, 0);
    x.maker(1, 1, 0, 0, 0);
    x.maker(1, 1, 2, 0, 0);
    x.maker(2, 1, 2, 0, 0);
    x.maker(2, 0, 0, 0, 0);
    x.maker(2, 0, 0, 0, 0);
    x.match(2, 1, 2, 0);
    due("plain, the least maker of the smallest", x.missing(0), 3);
    x.partsAre(1, 0, 1);
    int any = x.any(2, NONE);
    x.row(0, x.made(1, 1, x.any(0, NONE), 0, 0), any, 0, NONE, 0);
    due("the least maker that was not there", x.missing(0), 4);
    x.partsAre(0, 1, 0, 1);
    x.row(0, x.made(1, 0, x.made(2, 2, 0, 0, 0), x.any(0, NONE), 0), any, 0, NONE, 0);
    due("in a part", x.missing(0), 5);
    x.partsAre(0, 0, 1, 0, 1);
    x.row(0, x.made(1, 0, any, x.exactly(0), 0), x.made(2, 1, 0, 0, 0), 0, NONE, 0);
    due("in all of them", x.missing(0), 6);
    x.partsAre(0, 0, 1, 0, 0, 1);
  }

  /** Sizes 4, 13, 40, 121, 364 for types 1 to 5; type 6 are lists of those and of numbers. */
  private static void missingMany() {
    Forge x = new Forge();
    for (int t = 1; t <= 6; t++) x.type();
    for (int t = 1; t <= 5; t++) x.maker(t, 3, t - 1, t - 1, t - 1);
    x.maker(6, 3, 5, 5, 6);
    for (int k = 1; k <= 4; k++) x.maker(6, 2, k == 4 ? 0 : 5 - k, 6, 0);
    x.maker(6, 0, 0, 0, 0);
    int[] any = new int[6];
    for (int t = 0; t < 6; t++) any[t] = x.any(t, NONE);
    int p = x.made(6, 4, x.exactly(9), x.any(6, NONE), 0);
    int[] times = {5, 2, 2, 1, 6};
    for (int k = 4; k >= 0; k--) {
      for (int i = 0; i < times[k]; i++) {
        p = k == 0 ? x.made(6, 0, any[5], any[5], p) : x.made(6, k, any[k == 4 ? 0 : 5 - k], p, 0);
      }
    }
    x.match(1, 6, 0, 0);
    x.match(2, 6, 0, 0);
    x.row(0, p, 0, 0, NONE, 0);
    x.row(1, p, any[0], 0, NONE, 0);
    due("plain(5)", x.plain(5), 364);
    due("4000", x.missing(0), 4000);
    due("part(0)", x.part(0), 0);
    due("part(728)", x.part(728), 0);
    due("part(3645)", x.part(3645), 1);
    due("part(3998)", x.part(3998), 0);
    due("part(3999)", x.part(3999), 5);
    due("part(4000)", x.part(4000), NONE);
    due("4001", x.missing(1), FULL);
    due("what was told stays", x.part(3999), 5);
    due("part(4000)", x.part(4000), NONE);
    x.row(0, x.any(6, NONE), 0, 0, NONE, 0);
    due("4001 again", x.missing(1), FULL);
    due("none", x.missing(0), 0);
    due("part(0)", x.part(0), NONE);
  }

  private static void part() {
    Due.promise(17, "in all");
    Forge x = Forge.grid(9, 9);
    x.match(3, 0, 0, 0);
    x.match(1, 0, 0, 0);
    x.row(1, x.exactly(0), x.any(0, NONE), x.any(0, NONE), NONE, 0);
    x.row(2, x.any(0, NONE), 0, 0, NONE, 0);
    due("part(0) before", x.part(0), NONE);
    due("missing(1)", x.missing(1), 3);
    x.partsAre(1, 0, 0);
    due("part(-1)", x.part(-1), NONE);
    due("part(MAX)", x.part(Integer.MAX_VALUE), NONE);
    due("part(MIN)", x.part(Integer.MIN_VALUE), NONE);
    due("missing(9)", x.missing(9), NONE);
    x.partsAre(1, 0, 0);
    x.row(0, x.exactly(0), x.exactly(777), 0, NONE, 0);
    due("missing(0)", x.missing(0), FULL);
    x.partsAre(1, 0, 0);
    due("missing(2)", x.missing(2), 0);
    x.partsAre();
  }

  private static void plain() {
    Due.promise(18, "in all");
    Forge x = new Forge();
    for (int t = 1; t <= 7; t++) {
      due("before it is told", x.plain(t), NONE);
      x.type();
      due("without makers", x.plain(t), 0);
    }
    due("no such type", x.plain(8), NONE);
    due("no such type", x.plain(-1), NONE);
    x.maker(7, 3, 6, 6, 6);
    x.maker(6, 3, 5, 5, 5);
    x.maker(5, 3, 4, 4, 4);
    x.maker(4, 3, 3, 3, 3);
    x.maker(3, 3, 2, 2, 2);
    x.maker(2, 3, 1, 1, 1);
    for (int t = 1; t <= 7; t++) due("types that lead to none", x.plain(t), 0);
    x.maker(1, 1, 1, 0, 0);
    due("a type of itself alone", x.plain(1), 0);
    x.maker(1, 3, 0, 0, 0);
    int[] sizes = {1, 4, 13, 40, 121, 364, 1093, 3280};
    for (int t = 0; t <= 7; t++) due("plain(" + t + ")", x.plain(t), sizes[t]);
    x.maker(5, 1, 7, 0, 0);
    due("a larger one", x.plain(5), 364);
    x.maker(5, 2, 0, 1, 0);
    due("a smaller one", x.plain(5), 6);
    due("and what is made of it", x.plain(7), 58);
  }

  private static void count() {
    Due.promise(19, "in all");
    Forge x = Forge.lists();
    x.type();
    x.maker(2, 0, 0, 0, 0);
    x.number(1);
    x.make(1, 0, 0, 0, 0);
    x.any(0, NONE);
    x.exactly(3);
    x.any(1, 2);
    x.match(1, 0, 0, 0);
    x.match(1, 0, 0, 0);
    for (int i = 0; i < 3; i++) x.row(0, 1, 0, 0, NONE, 0);
    for (int i = 0; i < 4; i++) x.row(1, 0, 0, 0, NONE, 0);
    counts(x, 3, 3, 2, 3, 2, 7, NONE, NONE);
    due("count(-1)", x.count(-1), NONE);
    x.row(1, 2, 0, 0, NONE, 0);
    x.make(1, 5, 0, 0, 0);
    x.also(9, 9);
    x.match(9, 0, 0, 0);
    counts(x, 3, 3, 2, 3, 2, 7);
  }

  private static void check() {
    Due.promise(20, "in all");
    Forge x = Forge.lists();
    int any = x.any(1, NONE);
    int pair = x.made(1, 1, x.any(0, 2), x.any(1, 3), 0);
    x.match(2, 1, 1, 0);
    x.match(2, 0, 1, 0);
    x.row(0, any, pair, 0, NONE, 0);
    x.row(0, any, any, 0, NONE, 0);
    x.row(1, x.exactly(1), any, 0, NONE, 0);
    due("without values", x.check(), 1);
    x.number(1);
    x.make(1, 0, 0, 0, 0);
    x.make(1, 1, 0, 1, 0);
    due("run", x.run(0, 1, 2, 0), 0);
    due("check()", x.check(), 1);
    due("the latest run stays", x.took(2), 0);
    due("the latest run stays", x.took(3), 1);
    due("the latest run stays", x.took(16), 1);
    due("missing(1)", x.missing(1), 2);
    due("check()", x.check(), 1);
    x.partsAre(0, 0);
    Forge y = Forge.grid(9, 10);
    y.number(3);
    due("with a tree that is too large", y.check(), 1);
    Forge z = new Forge();
    z.match(3, 0, 0, 0);
    int name = z.any(0, 0);
    z.row(0, name, z.any(0, 1), z.any(0, 2), 0, 1);
    z.row(0, name, z.exactly(4), z.either(z.exactly(5), z.exactly(4)), NONE, 0);
    z.row(0, name, z.any(0, 1), z.any(0, 2), NONE, 0);
    z.number(4);
    due("with a guard and EITHER", z.check(), 1);
    due("a number, in all places", z.run(0, 0, 0, 0), 1);
    z.number(5);
    due("another number", z.check(), 1);
  }

  public static void main(String[] args) {
    newObject();
    type();
    maker();
    number();
    make();
    any();
    also();
    exactly();
    made();
    either();
    match();
    row();
    run();
    took();
    tree();
    missing();
    part();
    plain();
    count();
    check();
    Due.end();
  }
}

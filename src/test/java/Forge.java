/**
 * A MatchForge in the hands of a test. It counts the calls, since nothing is promised after the
 * 512th, and what was made, so that count() can be asked behind calls that made nothing.
 */
final class Forge {
  static final int NONE = MatchForge.NONE;
  static final int FULL = MatchForge.FULL;
  static final int MOST_CALLS = 512;

  private final MatchForge x = new MatchForge();
  private final int[] made = {1, 0, 0, 0, 0, 0};
  private int calls = 0;

  /** Type 1: 0 is the empty list, 1 is a number before a list. */
  static Forge lists() {
    Forge x = new Forge();
    x.type();
    x.maker(1, 0, 0, 0, 0);
    x.maker(1, 2, 0, 1, 0);
    return x;
  }

  /** Type 1: 0 is an end, 1 has one part, 2 has two, 3 has three, all of type 1. */
  static Forge shapes() {
    Forge x = new Forge();
    x.type();
    for (int n = 0; n <= 3; n++) x.maker(1, n, 1, 1, 1);
    return x;
  }

  /**
   * A match of two numbers; j rows (ANY, a NUMBER) behind one of k numbers before a NUMBER: k + j
   * rows come together. Its tree has (k + 1)(j + 3) nodes; with a guard behind all these rows,
   * (k + 1)(j + 4), k + 1 of them questions.
   */
  static Forge grid(int k, int j) {
    Forge x = new Forge();
    x.match(2, 0, 0, 0);
    x.row(0, x.oneOf(0, k), x.exactly(500), 0);
    int any = x.any(0, NONE);
    for (int i = 0; i < j; i++) x.row(0, any, x.exactly(100 + i), 0);
    return x;
  }

  int calls() {
    return calls;
  }

  /** All counts are those of the calls that answered with a number. */
  void countsStand() {
    for (int i = 0; i < made.length; i++) Due.due("count(" + i + ")", count(i), made[i]);
  }

  /** EITHER of the numbers from, from + 1, and so on, n of them: of size 2n - 1. */
  int oneOf(int from, int n) {
    int p = exactly(from);
    for (int i = 1; i < n; i++) p = either(p, exactly(from + i));
    return p;
  }

  /** A row of a match without a guard. */
  int row(int m, int a, int b, int c) {
    return row(m, a, b, c, NONE, 0);
  }

  private MatchForge used() {
    calls++;
    if (calls == MOST_CALLS + 1) Due.due("a test's own calls", calls, MOST_CALLS);
    return x;
  }

  private int told(int kind, int answer) {
    if (answer >= 0) made[kind]++;
    return answer;
  }

  int type() {
    return told(0, used().type());
  }

  int maker(int type, int n, int a, int b, int c) {
    return told(1, used().maker(type, n, a, b, c));
  }

  int number(int v) {
    return told(2, used().number(v));
  }

  int make(int type, int maker, int a, int b, int c) {
    return told(2, used().make(type, maker, a, b, c));
  }

  int any(int type, int name) {
    return told(3, used().any(type, name));
  }

  int also(int name, int p) {
    return told(3, used().also(name, p));
  }

  int exactly(int v) {
    return told(3, used().exactly(v));
  }

  int made(int type, int maker, int a, int b, int c) {
    return told(3, used().made(type, maker, a, b, c));
  }

  int either(int p, int q) {
    return told(3, used().either(p, q));
  }

  int match(int n, int a, int b, int c) {
    return told(4, used().match(n, a, b, c));
  }

  int row(int m, int a, int b, int c, int x, int y) {
    return told(5, used().row(m, a, b, c, x, y));
  }

  int run(int m, int a, int b, int c) {
    return used().run(m, a, b, c);
  }

  int took(int what) {
    return used().took(what);
  }

  int tree(int m, int what) {
    return used().tree(m, what);
  }

  int missing(int m) {
    return used().missing(m);
  }

  int part(int k) {
    return used().part(k);
  }

  int plain(int type) {
    return used().plain(type);
  }

  int count(int what) {
    return used().count(what);
  }

  int check() {
    return used().check();
  }

  /** Tests, questions, taken, failures, bits of the rows that are needed. */
  void treeIs(int m, int... want) {
    for (int i = 0; i < want.length; i++) Due.due("tree(" + m + ", " + i + ")", tree(m, i), want[i]);
  }

  void treeIsFull(int m) {
    treeIs(m, FULL, FULL, FULL, FULL, FULL);
  }

  void partsAre(int... want) {
    for (int i = 0; i < want.length; i++) Due.due("part(" + i + ")", part(i), want[i]);
    Due.due("the part behind the last", part(want.length), NONE);
  }
}

import com.sun.management.ThreadMXBean;
import java.lang.management.ManagementFactory;
import java.util.function.ToIntFunction;

/** Edges of 'What it is': an object is used for 512 calls, and they all live in one room. */
public final class CallsEdgesTest {
  private static final int NONE = Forge.NONE;
  private static final int FULL = Forge.FULL;
  /** Bytes: some 7.3 million fields and elements, most of them ints, and 600,000 objects' heads. */
  private static final long ROOM = 7_300_000L * 4 + 600_000L * 16;

  private static void due(String what, int got, int want) {
    Due.due(what, got, want);
  }

  /** Match 0: one number, and a tree too large; match 1: a list, one row, and one that asks. */
  private static Forge used() {
    Forge x = Forge.lists();
    x.number(5);
    x.make(1, 0, 0, 0, 0);
    x.make(1, 1, 0, 1, 0);
    int p = x.oneOf(0, 13);
    x.match(1, 0, 0, 0);
    x.match(1, 1, 0, 0);
    x.row(0, p, 0, 0);
    x.row(0, p, 0, 0);
    x.row(1, x.made(1, 1, x.any(0, 3), x.any(1, 4), 0), 0, 0);
    x.run(1, 2, 0, 0);
    x.missing(1);
    return x;
  }

  private static void last(String call, int want, ToIntFunction<Forge> asked) {
    Forge x = used();
    for (int i = x.calls(); i < Forge.MOST_CALLS - 1; i++) x.count(0);
    due("the 512th call, " + call, asked.applyAsInt(x), want);
    due("calls", x.calls(), Forge.MOST_CALLS);
  }

  /** used() makes 25 patterns of numbers, then three for a list: 28 in all. */
  private static void lastCalls() {
    Due.promise(0, "at most 512 calls");
    last("type()", 2, x -> x.type());
    last("maker()", NONE, x -> x.maker(1, 0, 0, 0, 0));
    last("number()", 3, x -> x.number(7));
    last("make()", 3, x -> x.make(1, 1, 0, 2, 0));
    last("any()", 28, x -> x.any(1, 15));
    last("also()", 28, x -> x.also(15, 27));
    last("exactly()", 28, x -> x.exactly(1));
    last("made()", 28, x -> x.made(1, 0, 0, 0, 0));
    last("either()", 28, x -> x.either(0, 1));
    last("match()", 2, x -> x.match(3, 0, 1, 0));
    last("row()", 1, x -> x.row(1, 27, 0, 0, 3, 3));
    last("run()", 0, x -> x.run(1, 2, 0, 0));
    last("run() that is NONE", NONE, x -> x.run(1, 1, 0, 0));
    last("run() that is FULL", FULL, x -> x.run(0, 0, 0, 0));
    last("took()", 1, x -> x.took(4));
    last("tree()", 1, x -> x.tree(1, 0));
    last("tree() that is FULL", FULL, x -> x.tree(0, 0));
    last("missing()", 1, x -> x.missing(1));
    last("missing() that is FULL", FULL, x -> x.missing(0));
    last("part()", 0, x -> x.part(0));
    last("plain()", 1, x -> x.plain(1));
    last("count()", 28, x -> x.count(3));
    last("check()", 1, x -> x.check());
  }

  /** Trees of wide patterns, made anew for each row that comes: 11 of each of 20 matches. */
  private static void dearTrees(Forge x) {
    x.type();
    x.maker(1, 3, 1, 1, 1);
    x.maker(1, 0, 0, 0, 0);
    x.maker(1, 0, 0, 0, 0);
    int any = x.any(1, NONE);
    int end = x.made(1, 1, 0, 0, 0);
    int fork = x.either(end, x.made(1, 2, 0, 0, 0));
    int forks = x.made(1, 0, fork, fork, fork);
    int wide = x.made(1, 0, forks, forks, forks);
    int ends = x.made(1, 0, end, end, end);
    int narrow = x.made(1, 0, ends, ends, ends);
    for (int m = 0; m < 20; m++) x.match(3, 1, 1, 1);
    for (int m = 0; m < 20; m++) {
      for (int r = 0; r < 11; r++) {
        x.row(m, r == 0 ? narrow : r % 2 == 0 ? ends : any, narrow, r % 3 == 0 ? narrow : wide);
        x.missing(m);
      }
    }
  }

  private static void dearTalk(Forge x) {
    for (int t = 1; t <= 7; t++) x.type();
    for (int t = 1; t <= 7; t++) x.maker(t, 3, t - 1, t - 1, t - 1);
    for (int m = 0; m < 20; m++) x.match(1, 7, 0, 0);
    while (x.calls() < Forge.MOST_CALLS) due("missing", x.missing(x.calls() % 20), 3280);
  }

  private static void dearChecks(Forge x) {
    x.type();
    x.maker(1, 1, 1, 0, 0);
    x.maker(1, 0, 0, 0, 0);
    int p = x.any(1, 0);
    for (int i = 0; i < 38; i++) p = x.made(1, 0, p, 0, 0);
    int v = x.make(1, 1, 0, 0, 0);
    for (int i = 0; i < 60; i++) v = x.make(1, 0, v, 0, 0);
    for (int m = 0; m < 20; m++) x.match(3, 1, 1, 1);
    int any = x.any(1, NONE);
    for (int m = 0; m < 20; m++) x.row(m, any, p, any);
    while (x.calls() < Forge.MOST_CALLS) due("check", x.check(), 1);
  }

  private static long roomOf(int kind) {
    ThreadMXBean threads = (ThreadMXBean) ManagementFactory.getThreadMXBean();
    long me = Thread.currentThread().getId();
    long before = threads.getThreadAllocatedBytes(me);
    Forge x = new Forge();
    if (kind == 0) dearTrees(x);
    if (kind == 1) dearTalk(x);
    if (kind == 2) dearChecks(x);
    long room = threads.getThreadAllocatedBytes(me) - before;
    due("the calls of kind " + kind, x.calls() <= Forge.MOST_CALLS ? 1 : 0, 1);
    return room;
  }

  private static void oneRoom() {
    Due.promise(0, "all calls of one run live in one room");
    for (int kind = 0; kind < 3; kind++) {
      long room = roomOf(kind);
      System.out.println("kind " + kind + " takes " + room + " bytes");
      due("a room of " + room + " bytes is too large", room > ROOM ? 1 : 0, 0);
    }
  }

  public static void main(String[] args) {
    lastCalls();
    oneRoom();
    Due.end();
  }
}

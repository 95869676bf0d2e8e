import java.util.ArrayList;
import java.util.Collections;
import java.util.List;

/** A new object knows the numbers alone, whatever others were told; the same calls, the same answers. */
public final class ObjectsTest {
  private static final int NONE = Forge.NONE;

  private static void due(String what, int got, int want) {
    Due.due(what, got, want);
  }

  /** A run of calls on one object, step by step, so that steps of others can come between. */
  private static final class Player {
    final Forge x = new Forge();
    final List<Integer> answers = new ArrayList<>();
    private final int odd;

    /** Players differ in their numbers: one that saw what another told would answer otherwise. */
    Player(int odd) {
      this.odd = odd;
    }

    private void told(int... all) {
      for (int answer : all) answers.add(answer);
    }

    static final int STEPS = 7;

    void step(int k) {
      switch (k) {
        case 0 -> told(x.type(), odd == 0 ? NONE : x.type(), x.plain(1), x.maker(1, 0, 0, 0, 0));
        case 1 -> told(x.maker(1, 2 - odd % 2, 0, 1, 0), x.plain(1), x.maker(2, 1, 1, 0, 0), x.plain(2));
        case 2 -> told(x.number(odd), x.number(7), x.make(1, 0, 0, 0, 0), x.make(1, 1, 0, 2, 0));
        case 3 -> told(x.exactly(odd), x.any(0, odd), x.any(1, NONE), x.made(1, 1, 1, 2, 0), x.either(0, 0));
        case 4 -> told(x.match(1, 0, 0, 0), x.match(1, 1, 0, 0), x.row(0, 4, 0, 0),
            x.row(1, 3, 0, 0, odd, odd), x.row(1, 2, 0, 0));
        case 5 -> told(x.run(0, 0, 0, 0), x.took(16), x.run(1, 3, 0, 0), x.took(16), x.took(17), x.took(odd));
        default -> {
          for (int m = 0; m < 2; m++) {
            for (int what = 0; what < 5; what++) told(x.tree(m, what));
            told(x.missing(m), x.part(0), x.part(1));
          }
          for (int what = 0; what < 6; what++) told(x.count(what));
          told(x.check(), x.took(16));
        }
      }
    }

    static List<Integer> alone(int odd) {
      Player player = new Player(odd);
      for (int k = 0; k < STEPS; k++) player.step(k);
      return player.answers;
    }
  }

  private static void same(String who, List<Integer> got, List<Integer> want) {
    due(who + ", how many answers", got.size(), want.size());
    for (int i = 0; i < Math.min(got.size(), want.size()); i++) {
      due(who + ", answer " + i, got.get(i), want.get(i));
    }
  }

  private static void sameCalls() {
    Due.promise(0, "the same calls, the same answers");
    for (int odd = 0; odd < 4; odd++) same("player " + odd, Player.alone(odd), Player.alone(odd));
    due("players 0 and 1 alike", Player.alone(0).equals(Player.alone(1)) ? 1 : 0, 0);
  }

  /** Steps of four objects in turn, forwards and backwards, one of them a step ahead of the next. */
  private static void apart() {
    Due.promise(0, "objects have nothing in common");
    for (int turn = 0; turn < 2; turn++) {
      List<Player> players = new ArrayList<>();
      for (int odd = 0; odd < 4; odd++) players.add(new Player(odd));
      List<Player> order = new ArrayList<>(players);
      if (turn == 1) Collections.reverse(order);
      for (int step = 0; step < Player.STEPS + 3; step++) {
        for (int i = 0; i < 4; i++) {
          int k = step - i;
          if (k >= 0 && k < Player.STEPS) order.get(i).step(k);
        }
      }
      for (int odd = 0; odd < 4; odd++) {
        same("player " + odd + " among others", players.get(odd).answers, Player.alone(odd));
      }
    }
  }

  private static void newBesideFull() {
    Due.promise(1, "the numbers alone, beside an object that has all that it can have");
    Forge full = new Forge();
    for (int i = 0; i < 7; i++) full.type();
    for (int t = 1; t <= 7; t++) full.maker(t, 0, 0, 0, 0);
    for (int i = 0; i < 20; i++) full.match(1, 0, 0, 0);
    int p = full.any(0, 3);
    for (int i = 0; i < 12; i++) full.row(0, p, 0, 0);
    full.number(5);
    due("the run of the full one", full.run(0, 0, 0, 0), 0);
    due("what the full one misses", full.missing(1), 1);
    Forge x = new Forge();
    x.countsStand();
    due("the plain number", x.plain(0), 1);
    due("a type of the full one", x.plain(1), NONE);
    due("the full one's name", x.took(3), NONE);
    due("the full one's part", x.part(0), NONE);
    due("the full one's match", x.run(0, 0, 0, 0), NONE);
    due("a match", x.match(1, 0, 0, 0), 0);
    due("the full one's value", x.run(0, 0, 0, 0), NONE);
    due("the full one's pattern", x.row(0, 0, 0, 0), NONE);
    x.treeIs(0, 0, 0, 0, 1, 0);
    due("the name of the full one still", full.took(3), 0);
    due("the part of the full one still", full.part(0), 0);
    full.countsStand();
  }

  public static void main(String[] args) {
    sameCalls();
    apart();
    newBesideFull();
    Due.end();
  }
}

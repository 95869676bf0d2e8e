import java.util.HashMap;
import java.util.Map;
import java.util.Random;
import java.util.TreeMap;

/** Drawn runs of calls, the same ones each time, against the model that tells the document. */
public final class ModelTest {
  private static final int RUNS = 1500;
  private static final int CALLS = 512;
  private static int wrong = 0;
  private static final Map<String, Integer> seen = new TreeMap<>();

  private final Random random;
  private final MatchForge forge = new MatchForge();
  private final Model model = new Model();
  private final StringBuilder log = new StringBuilder();
  private final int run;
  private int calls = 0;
  private boolean failed = false;
  /** How many names and numbers are drawn from, and how often EITHER is: runs differ in that. */
  private final int names;
  private final int numbers;
  private final int eithers;
  private final int oddities;

  private ModelTest(int run) {
    this.run = run;
    random = new Random(run);
    names = 2 + random.nextInt(15);
    numbers = 1 + random.nextInt(5);
    eithers = random.nextInt(4);
    oddities = random.nextInt(3) == 0 ? 8 : 60;
  }

  private void due(String call, int got, int want) {
    calls++;
    log.append(call).append(" = ").append(want).append('\n');
    if (got == want || failed) return;
    failed = true;
    wrong++;
    System.out.println("run " + run + ", call " + calls + ": answered " + got);
    if (wrong == 1) System.out.println(log);
  }

  private boolean odd() {
    return random.nextInt(oddities) == 0;
  }

  private int upTo(int n) {
    return n <= 0 ? random.nextInt(3) - 1 : random.nextInt(n);
  }

  private int anyType() {
    return odd() ? random.nextInt(11) - 2 : random.nextInt(model.makers.size());
  }

  private int numberDrawn() {
    int k = random.nextInt(30);
    return k == 0 ? Integer.MIN_VALUE : k == 1 ? Integer.MAX_VALUE : random.nextInt(numbers) - (k == 2 ? 3 : 0);
  }

  private int nameDrawn() {
    return odd() ? random.nextInt(20) - 3 : random.nextInt(names);
  }

  private int patternOf(int type) {
    if (odd()) return random.nextInt(model.patterns.size() + 4) - 2;
    for (int i = 0; i < 40; i++) {
      int p = upTo(model.patterns.size());
      if (p >= 0 && p < model.patterns.size() && model.patterns.get(p).type() == type) return p;
    }
    return upTo(model.patterns.size());
  }

  private int valueOf(int type) {
    if (odd()) return random.nextInt(model.values.size() + 4) - 2;
    for (int i = 0; i < 40; i++) {
      int v = upTo(model.values.size());
      if (v >= 0 && v < model.values.size() && model.values.get(v).type() == type) return v;
    }
    return upTo(model.values.size());
  }

  private void types() {
    if (random.nextInt(4) == 0) {
      longWays();
      return;
    }
    int n = random.nextInt(5);
    for (int i = 0; i < n; i++) due("type()", forge.type(), model.type());
    int k = n * (1 + random.nextInt(4));
    for (int i = 0; i < k; i++) {
      int type = odd() || model.makers.size() == 1 ? anyType() : 1 + random.nextInt(model.makers.size() - 1);
      int parts = odd() ? random.nextInt(6) - 1 : random.nextInt(4);
      if (type > 0 && type < model.makers.size() && model.makers.get(type).isEmpty() && random.nextInt(3) > 0) parts = 0;
      maker(type, parts, anyType(), anyType(), anyType());
    }
    if (odd()) return;
    for (int t = 1; t < model.makers.size(); t++) {
      if (model.plain(t) == 0) maker(t, 0, 9, 9, 9);
    }
  }

  /** Types of few makers, none of which comes back to its type: long ways with few branches. */
  private void longWays() {
    int n = 2 + random.nextInt(6);
    for (int i = 0; i < n; i++) due("type()", forge.type(), model.type());
    for (int t = 1; t <= n; t++) {
      for (int i = random.nextInt(8); i < 8; i += 7) {
        int down = t - 1 - (odd() ? random.nextInt(t) : 0);
        maker(t, 1 + random.nextInt(3), down, down, random.nextInt(t));
      }
    }
    for (int t = 1; t <= n; t++) {
      if (model.plain(t) == 0) maker(t, 0, 9, 9, 9);
    }
  }

  private void maker(int t, int n, int a, int b, int c) {
    due("maker(" + t + ", " + n + ", " + a + ", " + b + ", " + c + ")", forge.maker(t, n, a, b, c), model.maker(t, n, a, b, c));
    int p = anyType();
    due("plain(" + p + ")", forge.plain(p), model.plain(p));
  }

  private void value() {
    int t = anyType();
    if (t == 0) {
      int v = numberDrawn();
      due("number(" + v + ")", forge.number(v), model.number(v));
      return;
    }
    int k = odd() || t < 0 || t >= model.makers.size() ? random.nextInt(9) - 1 : upTo(model.makers.get(t).size());
    int[] parts = new int[3];
    for (int i = 0; i < 3; i++) parts[i] = valueOf(partType(t, k, i));
    due("make(" + t + ", " + k + ", " + list(parts) + ")", forge.make(t, k, parts[0], parts[1], parts[2]),
        model.make(t, k, parts[0], parts[1], parts[2]));
  }

  private int partType(int t, int k, int i) {
    if (t < 0 || t >= model.makers.size() || k < 0 || k >= model.makers.get(t).size()) return 0;
    return i < model.makers.get(t).get(k).size() ? model.makers.get(t).get(k).get(i) : 0;
  }

  private static String list(int... all) {
    return all[0] + ", " + all[1] + ", " + all[2];
  }

  private void pattern() {
    int t = anyType();
    switch (random.nextInt(10)) {
      case 0: {
        int name = random.nextInt(3) > 0 ? -1 : nameDrawn();
        due("any(" + t + ", " + name + ")", forge.any(t, name), model.any(t, name));
        return;
      }
      case 1: {
        int name = nameDrawn();
        due("any(" + t + ", " + name + ")", forge.any(t, name), model.any(t, name));
        return;
      }
      case 2: {
        int name = nameDrawn();
        int p = patternOf(t);
        due("also(" + name + ", " + p + ")", forge.also(name, p), model.also(name, p));
        return;
      }
      case 3:
      case 4:
        if (random.nextInt(4) < eithers) {
          int p = patternOf(t);
          int q = alike(p, t);
          due("either(" + p + ", " + q + ")", forge.either(p, q), model.either(p, q));
          return;
        }
        break;
      case 5: {
        int v = numberDrawn();
        due("exactly(" + v + ")", forge.exactly(v), model.exactly(v));
        return;
      }
      default:
    }
    int k = t < 0 || t >= model.makers.size() || odd() ? random.nextInt(9) - 1 : upTo(model.makers.get(t).size());
    int[] parts = new int[3];
    for (int i = 0; i < 3; i++) parts[i] = patternOf(partType(t, k, i));
    due("made(" + t + ", " + k + ", " + list(parts) + ")", forge.made(t, k, parts[0], parts[1], parts[2]),
        model.made(t, k, parts[0], parts[1], parts[2]));
  }

  private int alike(int p, int t) {
    for (int i = 0; i < 30 && p >= 0 && p < model.patterns.size(); i++) {
      int q = patternOf(t);
      if (q >= 0 && q < model.patterns.size() && model.patterns.get(q).names().equals(model.patterns.get(p).names())) return q;
    }
    return patternOf(t);
  }

  private void match() {
    int n = odd() ? random.nextInt(6) - 1 : 1 + random.nextInt(3);
    int a = anyType();
    int b = random.nextInt(3) == 0 ? a : anyType();
    int c = random.nextInt(3) == 0 ? a : anyType();
    due("match(" + n + ", " + list(a, b, c) + ")", forge.match(n, a, b, c), model.match(n, a, b, c));
  }

  private int matchDrawn() {
    if (odd()) return random.nextInt(24) - 2;
    // Mostly the first ones, so that some get many rows.
    return upTo(random.nextBoolean() ? Math.min(2, model.matches.size()) : model.matches.size());
  }

  private void row() {
    int m = matchDrawn();
    int[] parts = new int[3];
    for (int i = 0; i < 3; i++) parts[i] = patternOf(typeOf(m, i));
    int x = random.nextInt(3) > 0 ? -1 : nameDrawn();
    int y = nameDrawn();
    if (x != -1) {
      for (int i = 0; i < 3; i++) {
        int p = parts[i];
        if (p < 0 || p >= model.patterns.size() || i > 0 && typeOf(m, i) == 0) continue;
        for (int name : model.patterns.get(p).numberNames()) {
          if (random.nextBoolean()) x = name;
          if (random.nextBoolean()) y = name;
        }
      }
    }
    due("row(" + m + ", " + list(parts) + ", " + x + ", " + y + ")", forge.row(m, parts[0], parts[1], parts[2], x, y),
        model.row(m, parts[0], parts[1], parts[2], x, y));
    if (random.nextBoolean()) trees(m);
  }

  private int typeOf(int m, int i) {
    if (m < 0 || m >= model.matches.size() || i >= model.matches.get(m).types().size()) return 0;
    return model.matches.get(m).types().get(i);
  }

  private void trees(int m) {
    int what = odd() ? random.nextInt(8) - 2 : random.nextInt(5);
    int answer = model.tree(m, what);
    due("tree(" + m + ", " + what + ")", forge.tree(m, what), answer);
    seen.merge(answer == -2 ? "tree too large" : answer >= 0 ? "tree" : "no tree", 1, Integer::sum);
  }

  private void runs() {
    int m = matchDrawn();
    int[] given = new int[3];
    for (int i = 0; i < 3; i++) given[i] = valueOf(typeOf(m, i));
    int answer = model.run(m, given[0], given[1], given[2]);
    due("run(" + m + ", " + list(given) + ")", forge.run(m, given[0], given[1], given[2]), answer);
    seen.merge(answer == -2 ? "run too large" : answer >= 0 ? "run took a row" : "run took none", 1, Integer::sum);
    if (answer >= 0) {
      Map<Integer, Integer> names = new HashMap<>();
      due("the row by patterns", answer, model.rowByPatterns(m, given, names));
      for (int name = 0; name < 16; name++) {
        due("name " + name + " by patterns", model.took(name), names.getOrDefault(name, -1));
      }
      calls -= 17;
    }
    for (int i = 0; i < 4; i++) {
      int what = random.nextInt(20) - 1;
      due("took(" + what + ")", forge.took(what), model.took(what));
    }
    due("took(16)", forge.took(16), model.took(16));
    due("took(17)", forge.took(17), model.took(17));
    if (model.took(17) > 1) seen.merge("several questions", 1, Integer::sum);
  }

  private void missings() {
    int m = matchDrawn();
    int answer = model.missing(m);
    due("missing(" + m + ")", forge.missing(m), answer);
    seen.merge(answer == -2 ? "missing FULL" : answer > 0 ? "missing" : "none missing", 1, Integer::sum);
    for (int k = -1; k < Math.min(answer + 2, 12); k++) due("part(" + k + ")", forge.part(k), model.part(k));
    if (answer > 12) {
      int k = random.nextInt(answer);
      due("part(" + k + ")", forge.part(k), model.part(k));
    }
  }

  private void counts() {
    int what = random.nextInt(8) - 1;
    due("count(" + what + ")", forge.count(what), model.count(what));
    if (random.nextInt(4) == 0) due("type()", forge.type(), model.type());
  }

  private int free;

  /** A pattern from the top down, with names that the row does not have yet. */
  private int sow(int type, int budget, boolean forks) {
    int k = random.nextInt(10);
    if (free < 16 && k < 3) {
      int name = free++;
      if (budget < 3 || k == 0) return anyCall(type, name);
      int inner = sow(type, budget - 1, forks);
      due("also(" + name + ", " + inner + ")", forge.also(name, inner), model.also(name, inner));
      return model.patterns.size() - 1;
    }
    if (forks && budget > 4 && k == 3) {
      int p = nameless(type, budget / 2);
      int q = nameless(type, budget / 2);
      due("either(" + p + ", " + q + ")", forge.either(p, q), model.either(p, q));
      return model.patterns.size() - 1;
    }
    if (type == 0 && k < 8) {
      int v = numberDrawn();
      due("exactly(" + v + ")", forge.exactly(v), model.exactly(v));
      return model.patterns.size() - 1;
    }
    int maker = type == 0 ? -1 : random.nextInt(model.makers.get(type).size());
    int n = type == 0 ? 0 : model.makers.get(type).get(maker).size();
    if (type == 0 || budget <= n || k == 9 && budget < 12) return anyCall(type, -1);
    int[] parts = new int[3];
    int left = budget - 1;
    for (int i = 0; i < n; i++) {
      int share = i == n - 1 ? left : 1 + random.nextInt(left - (n - 1 - i));
      parts[i] = sow(partType(type, maker, i), share, forks);
      left -= share;
    }
    due("made(" + type + ", " + maker + ", " + list(parts) + ")", forge.made(type, maker, parts[0], parts[1], parts[2]),
        model.made(type, maker, parts[0], parts[1], parts[2]));
    return model.patterns.size() - 1;
  }

  private int nameless(int type, int budget) {
    int kept = free;
    free = 16;
    int p = sow(type, budget, true);
    free = kept;
    return p;
  }

  private int anyCall(int type, int name) {
    for (int p = 0; p < model.patterns.size(); p++) {
      Model.Pattern old = model.patterns.get(p);
      boolean same = old.kind() == (name == -1 ? Model.Kind.ANY : Model.Kind.NAME);
      if (same && old.type() == type && old.label() == name) return p;
    }
    due("any(" + type + ", " + name + ")", forge.any(type, name), model.any(type, name));
    return model.patterns.size() - 1;
  }

  private void sowRow(int m) {
    free = 0;
    boolean guarded = random.nextInt(3) > 0;
    int[] parts = new int[3];
    int n = model.matches.get(m).types().size();
    for (int i = 0; i < n; i++) {
      int budget = random.nextInt(3) == 0 ? 40 : 1 + random.nextInt(40);
      parts[i] = random.nextInt(4) == 0 ? anyCall(typeOf(m, i), -1) : sow(typeOf(m, i), budget, !guarded && eithers > 0);
    }
    int x = -1;
    int y = -1;
    for (int i = 0; guarded && i < n; i++) {
      for (int name : model.patterns.get(parts[i]).numberNames()) {
        if (x == -1 || random.nextBoolean()) x = name;
        if (y == -1 || random.nextBoolean()) y = name;
      }
    }
    due("row(" + m + ", " + list(parts) + ", " + x + ", " + y + ")", forge.row(m, parts[0], parts[1], parts[2], x, y),
        model.row(m, parts[0], parts[1], parts[2], x, y));
    for (int what = 0; what < 5; what++) {
      int answer = model.tree(m, what);
      due("tree(" + m + ", " + what + ")", forge.tree(m, what), answer);
      if (what == 0) seen.merge(answer > 60 ? "over 60 tests" : answer > 20 ? "over 20 tests" : answer == -2 ? "tests FULL" : "tests", 1, Integer::sum);
    }
  }

  private int bear(int type, int budget) {
    if (type == 0) {
      int v = numberDrawn();
      due("number(" + v + ")", forge.number(v), model.number(v));
      return model.values.size() - 1;
    }
    int maker = random.nextInt(model.makers.get(type).size());
    int n = model.makers.get(type).get(maker).size();
    int[] parts = new int[3];
    for (int i = 0; i < n && budget > 0; i++) {
      parts[i] = bear(partType(type, maker, i), budget / n);
    }
    due("make(" + type + ", " + maker + ", " + list(parts) + ")", forge.make(type, maker, parts[0], parts[1], parts[2]),
        model.make(type, maker, parts[0], parts[1], parts[2]));
    return model.values.size() - 1;
  }

  private void playSown() {
    types();
    int a = random.nextInt(model.makers.size());
    int b = random.nextInt(model.makers.size());
    int c = random.nextInt(3) > 0 ? a : b;
    int n = 1 + random.nextInt(3);
    due("match(" + n + ", " + list(a, b, c) + ")", forge.match(n, a, b, c), model.match(n, a, b, c));
    if (model.matches.isEmpty()) return;
    for (int i = 0; i < 9 && model.patterns.size() < 190 && !failed; i++) sowRow(0);
    for (int t = 0; t < model.makers.size(); t++) {
      for (int i = 0; i < 5 && model.values.size() < 200; i++) bear(t, 90);
    }
    for (int i = 0; i < 20 && !failed && !model.values.isEmpty(); i++) runs();
    for (int i = 0; i < 3; i++) missings();
    due("check()", forge.check(), model.check());
  }

  private void play() {
    types();
    int rowsFrom = 60 + random.nextInt(150);
    while (calls < CALLS - 30 && !failed) {
      int k = random.nextInt(100);
      if (calls < rowsFrom) {
        if (k < 25) value();
        else if (k < 90) pattern();
        else if (k < 97) match();
        else counts();
      } else if (k < 10) {
        value();
      } else if (k < 30) {
        pattern();
      } else if (k < 33) {
        match();
      } else if (k < 65) {
        row();
      } else if (k < 85) {
        runs();
      } else if (k < 90) {
        missings();
      } else if (k < 95) {
        trees(matchDrawn());
      } else if (k < 98) {
        due("check()", forge.check(), model.check());
      } else {
        counts();
      }
    }
    due("check()", forge.check(), model.check());
    due("took(16)", forge.took(16), model.took(16));
  }

  private int wild() {
    int k = random.nextInt(40);
    return k == 0 ? Integer.MIN_VALUE : k == 1 ? Integer.MAX_VALUE : k == 2 ? 299 + random.nextInt(3) : random.nextInt(k < 20 ? 4 : 22) - 2;
  }

  /** Any call at any time, with any numbers: nothing may throw, and the answers are due. */
  private void playWild() {
    for (int i = 0; i < CALLS && !failed; i++) {
      int[] w = {wild(), wild(), wild(), wild(), wild(), wild()};
      String all = java.util.Arrays.toString(w);
      switch (random.nextInt(19)) {
        case 0 -> due("type" + all, forge.type(), model.type());
        case 1 -> due("maker" + all, forge.maker(w[0], w[1], w[2], w[3], w[4]), model.maker(w[0], w[1], w[2], w[3], w[4]));
        case 2 -> due("number" + all, forge.number(w[0]), model.number(w[0]));
        case 3 -> due("make" + all, forge.make(w[0], w[1], w[2], w[3], w[4]), model.make(w[0], w[1], w[2], w[3], w[4]));
        case 4 -> due("any" + all, forge.any(w[0], w[1]), model.any(w[0], w[1]));
        case 5 -> due("also" + all, forge.also(w[0], w[1]), model.also(w[0], w[1]));
        case 6 -> due("exactly" + all, forge.exactly(w[0]), model.exactly(w[0]));
        case 7 -> due("made" + all, forge.made(w[0], w[1], w[2], w[3], w[4]), model.made(w[0], w[1], w[2], w[3], w[4]));
        case 8 -> due("either" + all, forge.either(w[0], w[1]), model.either(w[0], w[1]));
        case 9 -> due("match" + all, forge.match(w[0], w[1], w[2], w[3]), model.match(w[0], w[1], w[2], w[3]));
        case 10 -> due("row" + all, forge.row(w[0], w[1], w[2], w[3], w[4], w[5]), model.row(w[0], w[1], w[2], w[3], w[4], w[5]));
        case 11 -> due("run" + all, forge.run(w[0], w[1], w[2], w[3]), model.run(w[0], w[1], w[2], w[3]));
        case 12 -> due("took" + all, forge.took(w[0]), model.took(w[0]));
        case 13 -> due("tree" + all, forge.tree(w[0], w[1]), model.tree(w[0], w[1]));
        case 14 -> due("missing" + all, forge.missing(w[0]), model.missing(w[0]));
        case 15 -> due("part" + all, forge.part(w[0]), model.part(w[0]));
        case 16 -> due("plain" + all, forge.plain(w[0]), model.plain(w[0]));
        case 17 -> due("count" + all, forge.count(w[0]), model.count(w[0]));
        default -> due("check" + all, forge.check(), model.check());
      }
    }
  }

  public static void main(String[] args) {
    for (int run = 0; run < RUNS; run++) {
      new ModelTest(run).play();
      new ModelTest(run).playSown();
      new ModelTest(run).playWild();
    }
    System.out.println(seen);
    System.out.println(wrong == 0 ? "all answers are as due" : wrong + " runs are not as due");
    if (wrong != 0) System.exit(1);
  }
}

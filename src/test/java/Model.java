import java.util.ArrayList;
import java.util.Arrays;
import java.util.HashMap;
import java.util.List;
import java.util.Map;
import java.util.TreeMap;
import java.util.TreeSet;

/**
 * The document once more, told as literally as can be and without regard to speed: rows with a
 * pattern for every place, places as ways down from the root, trees made anew for each call.
 */
final class Model {
  static final int NONE = -1;
  static final int FULL = -2;

  enum Kind { ANY, NAME, ALSO, NUMBER, MAKER, EITHER }

  record Value(int type, int label, List<Integer> parts, int size) { }

  record Pattern(Kind kind, int type, int label, List<Pattern> parts) {
    int size() {
      return 1 + parts.stream().mapToInt(Pattern::size).sum();
    }

    TreeSet<Integer> names() {
      TreeSet<Integer> all = new TreeSet<>();
      if (kind == Kind.NAME || kind == Kind.ALSO) all.add(label);
      parts.forEach(p -> all.addAll(p.names()));
      return all;
    }

    TreeSet<Integer> numberNames() {
      TreeSet<Integer> all = new TreeSet<>();
      if ((kind == Kind.NAME || kind == Kind.ALSO) && type == 0) all.add(label);
      parts.forEach(p -> all.addAll(p.numberNames()));
      return all;
    }

    boolean hasEither() {
      return kind == Kind.EITHER || parts.stream().anyMatch(Pattern::hasEither);
    }
  }

  record Row(List<Pattern> patterns, int x, int y) { }

  record Match(List<Integer> types, List<Row> rows) { }

  /** A place: the number of a type of the match, then which part, and so on. */
  record Place(List<Integer> way, int type) {
    Place part(int i, int partType) {
      List<Integer> longer = new ArrayList<>(way);
      longer.add(i);
      return new Place(longer, partType);
    }
  }

  static final class Line {
    final int row;
    final List<Pattern> patterns = new ArrayList<>();
    final Map<Integer, Place> names = new HashMap<>();

    Line(int row) {
      this.row = row;
    }

    Line copyWithout(int at) {
      Line line = new Line(row);
      line.patterns.addAll(patterns);
      line.names.putAll(names);
      if (at >= 0) line.patterns.remove(at);
      return line;
    }

    void insert(int at, Pattern p, Place place) {
      while (p.kind() == Kind.ALSO) {
        names.put(p.label(), place);
        p = p.parts().get(0);
      }
      if (p.kind() == Kind.NAME) {
        names.put(p.label(), place);
        p = new Pattern(Kind.ANY, p.type(), NONE, List.of());
      }
      patterns.add(at, p);
    }
  }

  static final class Node {
    String kind;
    int row = NONE;
    Map<Integer, Place> names = Map.of();
    Place place;
    final TreeMap<Integer, Node> branches = new TreeMap<>();
    Node others;
  }

  static final class TooLarge extends RuntimeException {
    private static final long serialVersionUID = 1L;
  }

  final List<List<List<Integer>>> makers = new ArrayList<>(List.of(new ArrayList<>()));
  final List<Value> values = new ArrayList<>();
  final List<Pattern> patterns = new ArrayList<>();
  final List<Match> matches = new ArrayList<>();
  private Map<Integer, Integer> tookNames = new HashMap<>();
  private int tests = 0;
  private int questions = 0;
  private List<Integer> told = new ArrayList<>();
  private int nodes;

  private boolean isType(int t) {
    return t >= 0 && t < makers.size();
  }

  private static boolean isName(int name) {
    return name >= 0 && name <= 15;
  }

  int type() {
    if (makers.size() == 8) return NONE;
    makers.add(new ArrayList<>());
    return makers.size() - 1;
  }

  int maker(int type, int n, int a, int b, int c) {
    if (!isType(type) || type == 0 || n < 0 || n > 3) return NONE;
    List<Integer> parts = List.of(a, b, c).subList(0, n);
    if (!parts.stream().allMatch(this::isType) || makers.get(type).size() == 6) return NONE;
    if (!values.isEmpty() || !patterns.isEmpty() || !matches.isEmpty()) return NONE;
    makers.get(type).add(parts);
    return makers.get(type).size() - 1;
  }

  int number(int v) {
    if (values.size() == 300) return NONE;
    values.add(new Value(0, v, List.of(), 1));
    return values.size() - 1;
  }

  private List<Integer> partTypes(int type, int maker) {
    if (!isType(type) || maker < 0 || maker >= makers.get(type).size()) return null;
    return makers.get(type).get(maker);
  }

  int make(int type, int maker, int a, int b, int c) {
    List<Integer> wanted = partTypes(type, maker);
    if (wanted == null) return NONE;
    List<Integer> parts = List.of(a, b, c).subList(0, wanted.size());
    int size = 1;
    for (int i = 0; i < parts.size(); i++) {
      int v = parts.get(i);
      if (v < 0 || v >= values.size() || values.get(v).type() != wanted.get(i)) return NONE;
      size += values.get(v).size();
    }
    if (size > 100 || values.size() == 300) return NONE;
    values.add(new Value(type, maker, parts, size));
    return values.size() - 1;
  }

  private int addPattern(Pattern p) {
    if (p.size() > 40 || patterns.size() == 300) return NONE;
    patterns.add(p);
    return patterns.size() - 1;
  }

  private Pattern pattern(int p) {
    return p >= 0 && p < patterns.size() ? patterns.get(p) : null;
  }

  int any(int type, int name) {
    if (!isType(type)) return NONE;
    if (name == NONE) return addPattern(new Pattern(Kind.ANY, type, NONE, List.of()));
    return isName(name) ? addPattern(new Pattern(Kind.NAME, type, name, List.of())) : NONE;
  }

  int also(int name, int p) {
    Pattern inner = pattern(p);
    if (inner == null || !isName(name) || inner.names().contains(name)) return NONE;
    return addPattern(new Pattern(Kind.ALSO, inner.type(), name, List.of(inner)));
  }

  int exactly(int v) {
    return addPattern(new Pattern(Kind.NUMBER, 0, v, List.of()));
  }

  private static boolean apart(List<Pattern> all) {
    int sum = all.stream().mapToInt(p -> p.names().size()).sum();
    return all.stream().flatMap(p -> p.names().stream()).distinct().count() == sum;
  }

  private List<Pattern> patternsOf(List<Integer> wanted, int... given) {
    List<Pattern> found = new ArrayList<>();
    for (int i = 0; i < wanted.size(); i++) {
      Pattern p = pattern(given[i]);
      if (p == null || p.type() != wanted.get(i)) return null;
      found.add(p);
    }
    return apart(found) ? found : null;
  }

  int made(int type, int maker, int a, int b, int c) {
    List<Integer> wanted = partTypes(type, maker);
    List<Pattern> parts = wanted == null ? null : patternsOf(wanted, a, b, c);
    return parts == null ? NONE : addPattern(new Pattern(Kind.MAKER, type, maker, parts));
  }

  int either(int p, int q) {
    Pattern one = pattern(p);
    Pattern two = pattern(q);
    if (one == null || two == null || one.type() != two.type()) return NONE;
    if (!one.names().equals(two.names())) return NONE;
    return addPattern(new Pattern(Kind.EITHER, one.type(), NONE, List.of(one, two)));
  }

  /** Sizes of plain values, by making ever larger ones: 0 for none. */
  private int[] plainSizes() {
    int[] sizes = new int[makers.size()];
    sizes[0] = 1;
    for (int size = 1; size <= 4000; size++) {
      for (int t = 1; t < sizes.length; t++) {
        if (sizes[t] == 0 && plainMaker(t, size, sizes) != NONE) sizes[t] = size;
      }
    }
    return sizes;
  }

  private int plainMaker(int type, int size, int[] sizes) {
    for (int k = 0; k < makers.get(type).size(); k++) {
      int sum = 1;
      boolean all = true;
      for (int part : makers.get(type).get(k)) {
        all &= sizes[part] > 0;
        sum += sizes[part];
      }
      if (all && sum == size) return k;
    }
    return NONE;
  }

  int match(int n, int a, int b, int c) {
    if (n < 1 || n > 3 || matches.size() == 20) return NONE;
    List<Integer> types = List.of(a, b, c).subList(0, n);
    if (!types.stream().allMatch(this::isType)) return NONE;
    if (Arrays.stream(plainSizes()).anyMatch(size -> size == 0)) return NONE;
    matches.add(new Match(types, new ArrayList<>()));
    return matches.size() - 1;
  }

  private boolean isMatch(int m) {
    return m >= 0 && m < matches.size();
  }

  int row(int m, int a, int b, int c, int x, int y) {
    if (!isMatch(m)) return NONE;
    Match match = matches.get(m);
    List<Pattern> found = patternsOf(match.types(), a, b, c);
    if (found == null || match.rows().size() == 12) return NONE;
    if (x != NONE) {
      TreeSet<Integer> names = new TreeSet<>();
      found.forEach(p -> names.addAll(p.numberNames()));
      if (!names.contains(x) || !names.contains(y)) return NONE;
      if (found.stream().anyMatch(Pattern::hasEither)) return NONE;
    }
    match.rows().add(new Row(found, x, y));
    return match.rows().size() - 1;
  }

  /** The tree of a match; null when it is too large. */
  Node treeOf(Match match) {
    List<Place> places = new ArrayList<>();
    for (int i = 0; i < match.types().size(); i++) {
      places.add(new Place(List.of(i), match.types().get(i)));
    }
    List<Line> lines = new ArrayList<>();
    for (int r = 0; r < match.rows().size(); r++) {
      Line line = new Line(r);
      for (int i = 0; i < places.size(); i++) {
        line.insert(i, match.rows().get(r).patterns().get(i), places.get(i));
      }
      lines.add(line);
    }
    nodes = 0;
    try {
      return grow(match, lines, places);
    } catch (TooLarge e) {
      return null;
    }
  }

  private Node node(String kind) {
    nodes++;
    if (nodes > 120) throw new TooLarge();
    Node node = new Node();
    node.kind = kind;
    return node;
  }

  private Node grow(Match match, List<Line> lines, List<Place> places) {
    if (lines.isEmpty()) return node("failure");
    Line first = lines.get(0);
    int at = 0;
    while (at < places.size() && first.patterns.get(at).kind() == Kind.ANY) at++;
    if (at == places.size()) {
      boolean guarded = match.rows().get(first.row).x() != NONE;
      Node node = node(guarded ? "question" : "taken");
      node.row = first.row;
      node.names = first.names;
      if (guarded) node.others = grow(match, lines.subList(1, lines.size()), places);
      return node;
    }
    if (first.patterns.get(at).kind() == Kind.EITHER) {
      return grow(match, split(lines, 0, at, places.get(at)), places);
    }
    for (int i = 0; i < lines.size(); ) {
      if (lines.get(i).patterns.get(at).kind() == Kind.EITHER) {
        lines = split(lines, i, at, places.get(at));
      } else {
        i++;
      }
    }
    return test(match, lines, places, at);
  }

  private List<Line> split(List<Line> lines, int i, int at, Place place) {
    if (lines.size() + 1 > 24) throw new TooLarge();
    List<Line> more = new ArrayList<>(lines);
    Line old = more.remove(i);
    for (int k = 1; k >= 0; k--) {
      Line half = old.copyWithout(at);
      half.insert(at, old.patterns.get(at).parts().get(k), place);
      more.add(i, half);
    }
    return more;
  }

  private Node test(Match match, List<Line> lines, List<Place> places, int at) {
    Node node = node("test");
    Place place = places.get(at);
    node.place = place;
    TreeSet<Integer> labels = new TreeSet<>();
    for (Line line : lines) {
      if (line.patterns.get(at).kind() != Kind.ANY) labels.add(line.patterns.get(at).label());
    }
    for (int label : labels) {
      List<Integer> partTypes = place.type() == 0 ? List.of() : partTypes(place.type(), label);
      List<Place> inner = new ArrayList<>(places);
      inner.remove(at);
      for (int i = partTypes.size() - 1; i >= 0; i--) {
        inner.add(at, place.part(i, partTypes.get(i)));
      }
      List<Line> kept = new ArrayList<>();
      for (Line line : lines) {
        Pattern p = line.patterns.get(at);
        if (p.kind() != Kind.ANY && p.label() != label) continue;
        Line next = line.copyWithout(at);
        for (int i = 0; i < partTypes.size(); i++) {
          Pattern part = p.kind() == Kind.ANY
              ? new Pattern(Kind.ANY, partTypes.get(i), NONE, List.of()) : p.parts().get(i);
          next.insert(at + i, part, inner.get(at + i));
        }
        kept.add(next);
      }
      node.branches.put(label, grow(match, kept, inner));
    }
    if (place.type() == 0 || labels.size() < makers.get(place.type()).size()) {
      List<Place> inner = new ArrayList<>(places);
      inner.remove(at);
      List<Line> kept = new ArrayList<>();
      for (Line line : lines) {
        if (line.patterns.get(at).kind() == Kind.ANY) kept.add(line.copyWithout(at));
      }
      node.others = grow(match, kept, inner);
    }
    return node;
  }

  private int valueAt(Place place, int... given) {
    int v = given[place.way().get(0)];
    for (int i : place.way().subList(1, place.way().size())) v = values.get(v).parts().get(i);
    return v;
  }

  int run(int m, int a, int b, int c) {
    int[] given = {a, b, c};
    boolean fits = isMatch(m);
    for (int i = 0; fits && i < matches.get(m).types().size(); i++) {
      fits = given[i] >= 0 && given[i] < values.size()
          && values.get(given[i]).type() == matches.get(m).types().get(i);
    }
    Node node = fits ? treeOf(matches.get(m)) : null;
    if (fits && node == null) return FULL;
    tookNames = new HashMap<>();
    tests = 0;
    questions = 0;
    if (!fits) return NONE;
    while (!node.kind.equals("failure")) {
      if (node.kind.equals("test")) {
        tests++;
        Node branch = node.branches.get(values.get(valueAt(node.place, given)).label());
        node = branch == null ? node.others : branch;
        continue;
      }
      if (node.kind.equals("question")) {
        questions++;
        Row row = matches.get(m).rows().get(node.row);
        int x = values.get(valueAt(node.names.get(row.x()), given)).label();
        int y = values.get(valueAt(node.names.get(row.y()), given)).label();
        if (x >= y) {
          node = node.others;
          continue;
        }
      }
      node.names.forEach((name, place) -> tookNames.put(name, valueAt(place, given)));
      return node.row;
    }
    return NONE;
  }

  int took(int what) {
    if (isName(what)) return tookNames.getOrDefault(what, NONE);
    return what == 16 ? tests : what == 17 ? questions : NONE;
  }

  private static int tally(Node node, String kind) {
    if (node == null) return 0;
    int sum = node.kind.equals(kind) ? 1 : 0;
    for (Node branch : node.branches.values()) sum += tally(branch, kind);
    return sum + tally(node.others, kind);
  }

  private static int needed(Node node) {
    if (node == null) return 0;
    int bits = node.row == NONE ? 0 : 1 << node.row;
    for (Node branch : node.branches.values()) bits |= needed(branch);
    return bits | needed(node.others);
  }

  int tree(int m, int what) {
    if (!isMatch(m) || what < 0 || what > 4) return NONE;
    Node root = treeOf(matches.get(m));
    if (root == null) return FULL;
    if (what == 4) return needed(root);
    return tally(root, List.of("test", "question", "taken", "failure").get(what));
  }

  /** What the tests on the way to the first failure found; null when there is no failure. */
  private Map<List<Integer>, Integer> wayToFailure(Node node) {
    if (node == null) return null;
    if (node.kind.equals("failure")) return new HashMap<>();
    for (Map.Entry<Integer, Node> branch : node.branches.entrySet()) {
      Map<List<Integer>, Integer> way = wayToFailure(branch.getValue());
      if (way != null) {
        way.put(node.place.way(), branch.getKey());
        return way;
      }
    }
    Map<List<Integer>, Integer> way = wayToFailure(node.others);
    if (way != null && node.kind.equals("test")) {
      int least = 0;
      while (node.branches.containsKey(least)) least++;
      way.put(node.place.way(), least);
    }
    return way;
  }

  private void spell(Place place, Map<List<Integer>, Integer> way, int[] sizes, List<Integer> to) {
    if (place.type() == 0) {
      to.add(way.getOrDefault(place.way(), 0));
      return;
    }
    Integer tested = way.get(place.way());
    int maker = tested != null ? tested : plainMaker(place.type(), sizes[place.type()], sizes);
    to.add(maker);
    List<Integer> partTypes = partTypes(place.type(), maker);
    for (int i = 0; i < partTypes.size(); i++) {
      spell(place.part(i, partTypes.get(i)), way, sizes, to);
    }
  }

  int missing(int m) {
    if (!isMatch(m)) return NONE;
    Node root = treeOf(matches.get(m));
    if (root == null) return FULL;
    Map<List<Integer>, Integer> way = wayToFailure(root);
    List<Integer> now = new ArrayList<>();
    if (way != null) {
      List<Integer> types = matches.get(m).types();
      for (int i = 0; i < types.size(); i++) {
        spell(new Place(List.of(i), types.get(i)), way, plainSizes(), now);
      }
    }
    if (now.size() > 4000) return FULL;
    told = now;
    return now.size();
  }

  int part(int k) {
    return k >= 0 && k < told.size() ? told.get(k) : NONE;
  }

  int plain(int type) {
    return isType(type) ? plainSizes()[type] : NONE;
  }

  int count(int what) {
    return switch (what) {
      case 0 -> makers.size();
      case 1 -> makers.stream().mapToInt(List::size).sum();
      case 2 -> values.size();
      case 3 -> patterns.size();
      case 4 -> matches.size();
      case 5 -> matches.stream().mapToInt(m -> m.rows().size()).sum();
      default -> NONE;
    };
  }

  /** The tree is right by the document, so nothing but 1 is due. */
  int check() {
    return 1;
  }

  private boolean fits(Pattern p, int v, Map<Integer, Integer> names) {
    Value value = values.get(v);
    switch (p.kind()) {
      case ANY:
        return true;
      case NAME:
        names.put(p.label(), v);
        return true;
      case ALSO:
        names.put(p.label(), v);
        return fits(p.parts().get(0), v, names);
      case NUMBER:
        return p.label() == value.label();
      case EITHER: {
        Map<Integer, Integer> first = new HashMap<>(names);
        if (fits(p.parts().get(0), v, first)) {
          names.putAll(first);
          return true;
        }
        return fits(p.parts().get(1), v, names);
      }
      default:
        if (p.label() != value.label()) return false;
        for (int i = 0; i < p.parts().size(); i++) {
          if (!fits(p.parts().get(i), value.parts().get(i), names)) return false;
        }
        return true;
    }
  }

  /** The row that values take by the patterns alone; its names are put into the map. */
  int rowByPatterns(int m, int[] given, Map<Integer, Integer> names) {
    List<Row> rows = matches.get(m).rows();
    for (int r = 0; r < rows.size(); r++) {
      names.clear();
      boolean all = true;
      for (int i = 0; all && i < rows.get(r).patterns().size(); i++) {
        all = fits(rows.get(r).patterns().get(i), given[i], names);
      }
      if (all && rows.get(r).x() != NONE) {
        int x = values.get(names.get(rows.get(r).x())).label();
        int y = values.get(names.get(rows.get(r).y())).label();
        all = x < y;
      }
      if (all) return r;
    }
    names.clear();
    return NONE;
  }
}

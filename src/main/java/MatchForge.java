import java.util.Arrays;

/**
 * Matches of patterns against values, made into trees of tests: which row is taken, and what its
 * names stand for; which rows never are, and a value that no row takes.
 */
public final class MatchForge {
    public static final int NONE = -1;
    public static final int FULL = -2;

    private static final int NUMBERS = 0;
    private static final int MOST_PARTS = 3;
    private static final int MOST_NAMES = 16;
    private static final int MOST_MATCHES = 20;
    private static final int LARGEST_VALUE = 100;
    private static final int LARGEST_PATTERN = 40;
    private static final int CHECKED_VALUES = 30;

    private final Types types;
    private final Terms values;
    private final Terms patterns;
    private final Match[] matches;
    private int matchCount;
    private final Builder builder;
    private final Walk latest;
    private final Walk trial;
    private final Judge judge;
    private final Teller teller;
    private final int[] given;

    public MatchForge() {
        Types newTypes = new Types();
        Terms newValues = new Terms(LARGEST_VALUE);
        Terms newPatterns = new Terms(LARGEST_PATTERN);
        types = newTypes;
        values = newValues;
        patterns = newPatterns;
        matches = new Match[MOST_MATCHES];
        matchCount = 0;
        builder = new Builder(newTypes, newPatterns);
        latest = new Walk(newValues);
        trial = new Walk(newValues);
        judge = new Judge(newPatterns, newValues);
        teller = new Teller(newTypes);
        given = new int[MOST_PARTS];
    }

    public int type() {
        return types.addType();
    }

    public int maker(int type, int n, int a, int b, int c) {
        // A maker that came later would change what stands: which makers a test leaves to the others.
        if (values.size > 0 || patterns.size > 0 || matchCount > 0) {
            return NONE;
        }
        give(a, b, c);
        return types.addMaker(type, n, given);
    }

    public int number(int v) {
        return values.add(Terms.NUMBER, NUMBERS, v, given, 0);
    }

    public int make(int type, int maker, int a, int b, int c) {
        give(a, b, c);
        return addMade(values, type, maker);
    }

    public int any(int type, int name) {
        if (!types.isType(type)) {
            return NONE;
        }
        if (name == NONE) {
            return patterns.add(Terms.ANY, type, NONE, given, 0);
        }
        return isName(name) ? patterns.add(Terms.NAME, type, name, given, 0) : NONE;
    }

    public int also(int name, int p) {
        if (!isName(name) || !patterns.has(p) || inBits(patterns.names[p], name)) {
            return NONE;
        }
        give(p, NONE, NONE);
        return patterns.add(Terms.ALSO, patterns.typeOf[p], name, given, 1);
    }

    public int exactly(int v) {
        return patterns.add(Terms.NUMBER, NUMBERS, v, given, 0);
    }

    public int made(int type, int maker, int a, int b, int c) {
        give(a, b, c);
        return addMade(patterns, type, maker);
    }

    public int either(int p, int q) {
        if (!patterns.has(p) || !patterns.has(q) || !patterns.areAlike(p, q)) {
            return NONE;
        }
        give(p, q, NONE);
        return patterns.add(Terms.EITHER, patterns.typeOf[p], NONE, given, 2);
    }

    public int match(int n, int a, int b, int c) {
        give(a, b, c);
        if (n < 1 || n > MOST_PARTS || matchCount == MOST_MATCHES) {
            return NONE;
        }
        if (!types.areTypes(given, n) || !types.allHaveValues()) {
            return NONE;
        }
        matches[matchCount] = new Match(n, given);
        matchCount++;
        return matchCount - 1;
    }

    public int row(int m, int a, int b, int c, int x, int y) {
        if (!isMatch(m)) {
            return NONE;
        }
        give(a, b, c);
        Match match = matches[m];
        if (!patterns.areOf(match.types, given, match.places)) {
            return NONE;
        }
        if (!patterns.haveNamesApart(given, match.places)) {
            return NONE;
        }
        if (x != NONE && !isGuard(x, y, match.places)) {
            return NONE;
        }
        return match.addRow(given, x, y);
    }

    public int run(int m, int a, int b, int c) {
        give(a, b, c);
        if (!isMatch(m) || !values.areOf(matches[m].types, given, matches[m].places)) {
            latest.clear();
            return NONE;
        }
        if (!builder.stands(matches[m])) {
            return FULL;
        }
        return latest.follow(matches[m], given);
    }

    public int took(int what) {
        if (isName(what)) {
            return latest.standsFor[what];
        }
        if (what == MOST_NAMES) {
            return latest.tests;
        }
        return what == MOST_NAMES + 1 ? latest.questions : NONE;
    }

    public int tree(int m, int what) {
        if (!isMatch(m) || what < 0 || what > Tree.KINDS) {
            return NONE;
        }
        if (!builder.stands(matches[m])) {
            return FULL;
        }
        Tree tree = matches[m].tree;
        return what == Tree.KINDS ? tree.needed : tree.tally[what];
    }

    public int missing(int m) {
        if (!isMatch(m)) {
            return NONE;
        }
        return builder.stands(matches[m]) ? teller.tell(matches[m]) : FULL;
    }

    public int part(int k) {
        return k >= 0 && k < teller.size ? teller.told[k] : NONE;
    }

    public int plain(int type) {
        return types.isType(type) ? types.plainSize[type] : NONE;
    }

    public int count(int what) {
        switch (what) {
            case 0:
                return types.size;
            case 1:
                return types.allMakers;
            case 2:
                return values.size;
            case 3:
                return patterns.size;
            case 4:
                return matchCount;
            case 5:
                return allRows();
            default:
                return NONE;
        }
    }

    public int check() {
        for (int m = 0; m < matchCount; m++) {
            Match match = matches[m];
            if (match.isOfOneType() && builder.stands(match) && !agrees(match)) {
                return 0;
            }
        }
        return 1;
    }

    private void give(int a, int b, int c) {
        given[0] = a;
        given[1] = b;
        given[2] = c;
    }

    private int addMade(Terms terms, int type, int maker) {
        if (!types.isMaker(type, maker)) {
            return NONE;
        }
        int n = types.partsOf(type, maker);
        for (int i = 0; i < n; i++) {
            if (!terms.isOf(given[i], types.partTypeOf(type, maker, i))) {
                return NONE;
            }
        }
        if (!terms.haveNamesApart(given, n)) {
            return NONE;
        }
        return terms.add(Terms.MAKER, type, maker, given, n);
    }

    private boolean isMatch(int m) {
        return m >= 0 && m < matchCount;
    }

    private static boolean isName(int name) {
        return name >= 0 && name < MOST_NAMES;
    }

    private static boolean inBits(int bits, int name) {
        return (bits >> name & 1) == 1;
    }

    private boolean isGuard(int x, int y, int n) {
        int numberNames = 0;
        for (int i = 0; i < n; i++) {
            if (patterns.forks[given[i]]) {
                return false;
            }
            numberNames |= patterns.numberNames[given[i]];
        }
        return isName(x) && isName(y) && inBits(numberNames, x) && inBits(numberNames, y);
    }

    private int allRows() {
        int rows = 0;
        for (int m = 0; m < matchCount; m++) {
            rows += matches[m].rows;
        }
        return rows;
    }

    private boolean agrees(Match match) {
        int first = Math.max(0, values.size - CHECKED_VALUES);
        for (int v = first; v < values.size; v++) {
            if (values.typeOf[v] == match.types[0]) {
                give(v, v, v);
                // A walk of its own, so that the latest run stays.
                if (trial.follow(match, given) != judge.rowFor(match, given)) {
                    return false;
                }
            }
        }
        return true;
    }

    /** The types with their makers, and the plain value of each. */
    private static final class Types {
        static final int MOST = 8;
        static final int MOST_MAKERS = 6;

        int size = 1;
        int allMakers = 0;
        final int[] makers = new int[MOST];
        final int[] partCount = new int[MOST * MOST_MAKERS];
        final int[] partType = new int[MOST * MOST_MAKERS * MOST_PARTS];
        final int[] plainSize = new int[MOST];
        final int[] plainMaker = new int[MOST];

        Types() {
            plainSize[NUMBERS] = 1;
        }

        boolean isType(int t) {
            return t >= 0 && t < size;
        }

        /** No number is a maker: the numbers have none. */
        boolean isMaker(int t, int k) {
            return isType(t) && k >= 0 && k < makers[t];
        }

        int partsOf(int t, int k) {
            return isMaker(t, k) ? partCount[t * MOST_MAKERS + k] : 0;
        }

        int partTypeOf(int t, int k, int i) {
            return partType[(t * MOST_MAKERS + k) * MOST_PARTS + i];
        }

        boolean areTypes(int[] given, int n) {
            for (int i = 0; i < n; i++) {
                if (!isType(given[i])) {
                    return false;
                }
            }
            return true;
        }

        boolean allHaveValues() {
            for (int t = 0; t < size; t++) {
                if (plainSize[t] == 0) {
                    return false;
                }
            }
            return true;
        }

        int addType() {
            if (size == MOST) {
                return NONE;
            }
            size++;
            return size - 1;
        }

        int addMaker(int t, int n, int[] given) {
            if (!isType(t) || t == NUMBERS || n < 0 || n > MOST_PARTS) {
                return NONE;
            }
            if (makers[t] == MOST_MAKERS || !areTypes(given, n)) {
                return NONE;
            }
            int k = makers[t];
            partCount[t * MOST_MAKERS + k] = n;
            for (int i = 0; i < n; i++) {
                partType[(t * MOST_MAKERS + k) * MOST_PARTS + i] = given[i];
            }
            makers[t]++;
            allMakers++;
            settlePlain();
            return k;
        }

        /**
         * No type stands twice on a way down into a plain value, so as many rounds as there are
         * types settle the sizes, and one more settles which maker is the least that reaches them.
         */
        private void settlePlain() {
            for (int round = 0; round <= MOST; round++) {
                for (int t = 1; t < size; t++) {
                    settlePlainOf(t);
                }
            }
        }

        private void settlePlainOf(int t) {
            int best = 0;
            for (int k = 0; k < makers[t]; k++) {
                int made = smallestBy(t, k);
                if (made > 0 && (best == 0 || made < best)) {
                    best = made;
                    plainMaker[t] = k;
                }
            }
            plainSize[t] = best;
        }

        private int smallestBy(int t, int k) {
            int sum = 1;
            for (int i = 0; i < partsOf(t, k); i++) {
                int partSize = plainSize[partTypeOf(t, k, i)];
                if (partSize == 0) {
                    return 0;
                }
                sum += partSize;
            }
            return sum;
        }
    }

    /** Values, or patterns: a value is told like a pattern of makers and numbers alone. */
    private static final class Terms {
        static final int ANY = 0;
        static final int NAME = 1;
        static final int ALSO = 2;
        static final int NUMBER = 3;
        static final int MAKER = 4;
        static final int EITHER = 5;
        static final int MOST = 300;

        final int largest;
        int size = 0;
        final int[] kind = new int[MOST];
        final int[] typeOf = new int[MOST];
        /** The name, the number or the maker, by the kind. */
        final int[] label = new int[MOST];
        final int[] weight = new int[MOST];
        final int[] partCount = new int[MOST];
        final int[] parts = new int[MOST * MOST_PARTS];
        final int[] names = new int[MOST];
        final int[] numberNames = new int[MOST];
        /** Whether there is EITHER in it. */
        final boolean[] forks = new boolean[MOST];

        Terms(int largest) {
            this.largest = largest;
        }

        boolean has(int i) {
            return i >= 0 && i < size;
        }

        boolean isOf(int i, int t) {
            return has(i) && typeOf[i] == t;
        }

        boolean areOf(int[] wanted, int[] given, int n) {
            for (int i = 0; i < n; i++) {
                if (!isOf(given[i], wanted[i])) {
                    return false;
                }
            }
            return true;
        }

        boolean areAlike(int p, int q) {
            return typeOf[p] == typeOf[q] && names[p] == names[q];
        }

        boolean haveNamesApart(int[] given, int n) {
            int seen = 0;
            for (int i = 0; i < n; i++) {
                if ((seen & names[given[i]]) != 0) {
                    return false;
                }
                seen |= names[given[i]];
            }
            return true;
        }

        int partOf(int i, int k) {
            return parts[i * MOST_PARTS + k];
        }

        int add(int newKind, int t, int newLabel, int[] given, int n) {
            int sum = 1;
            for (int i = 0; i < n; i++) {
                sum += weight[given[i]];
            }
            if (size == MOST || sum > largest) {
                return NONE;
            }
            int own = newKind == NAME || newKind == ALSO ? 1 << newLabel : 0;
            kind[size] = newKind;
            typeOf[size] = t;
            label[size] = newLabel;
            weight[size] = sum;
            partCount[size] = n;
            names[size] = own;
            numberNames[size] = t == NUMBERS ? own : 0;
            forks[size] = newKind == EITHER;
            for (int i = 0; i < n; i++) {
                join(i, given[i]);
            }
            size++;
            return size - 1;
        }

        private void join(int i, int inner) {
            parts[size * MOST_PARTS + i] = inner;
            names[size] |= names[inner];
            numberNames[size] |= numberNames[inner];
            forks[size] = forks[size] || forks[inner];
        }
    }

    /** The rows of a match, and the tree that was last made of them. */
    private static final class Match {
        static final int MOST_ROWS = 12;

        final int places;
        final int[] types = new int[MOST_PARTS];
        int rows = 0;
        final int[] patterns = new int[MOST_ROWS * MOST_PARTS];
        final int[] less = new int[MOST_ROWS];
        final int[] more = new int[MOST_ROWS];
        final Tree tree = new Tree();
        boolean stale = true;

        Match(int places, int[] given) {
            this.places = places;
            for (int i = 0; i < places; i++) {
                types[i] = given[i];
            }
        }

        int addRow(int[] given, int x, int y) {
            if (rows == MOST_ROWS) {
                return NONE;
            }
            for (int i = 0; i < places; i++) {
                patterns[rows * MOST_PARTS + i] = given[i];
            }
            less[rows] = x;
            more[rows] = y;
            stale = true;
            rows++;
            return rows - 1;
        }

        int patternOf(int row, int i) {
            return patterns[row * MOST_PARTS + i];
        }

        boolean isGuarded(int row) {
            return less[row] != NONE;
        }

        boolean isOfOneType() {
            for (int i = 1; i < places; i++) {
                if (types[i] != types[0]) {
                    return false;
                }
            }
            return true;
        }
    }

    /**
     * The tree of a match. The branches of a node stand side by side, so that a node keeps only the
     * first of them. The row that a question takes when it holds is no node of its own.
     */
    private static final class Tree {
        static final int TEST = 0;
        static final int QUESTION = 1;
        static final int TAKEN = 2;
        static final int FAILURE = 3;
        static final int KINDS = 4;
        static final int MOST = 120;
        /** Those of the match, for the root, and those of one maker for each other node. */
        static final int MOST_PLACES = MOST_PARTS * MOST;

        boolean tooLarge = false;
        int size = 0;
        int needed = 0;
        int firstFailure = NONE;
        int placeCount = 0;
        final int[] tally = new int[KINDS];
        final int[] placeType = new int[MOST_PLACES];
        final int[] kind = new int[MOST];
        final int[] row = new int[MOST];
        final int[] place = new int[MOST];
        final int[] parent = new int[MOST];
        final int[] firstBranch = new int[MOST];
        final int[] branches = new int[MOST];
        /** What its parent's test found to come here; for others, the least that was not there. */
        final int[] label = new int[MOST];
        final boolean[] others = new boolean[MOST];
        /** Where the parts of that are. */
        final int[] firstPlace = new int[MOST];
        final int[] nameAt = new int[MOST * MOST_NAMES];

        void clear() {
            tooLarge = false;
            size = 0;
            needed = 0;
            firstFailure = NONE;
            placeCount = 0;
            Arrays.fill(tally, 0);
        }

        void become(int node, int newKind) {
            kind[node] = newKind;
            tally[newKind]++;
            if (newKind == FAILURE && firstFailure == NONE) {
                firstFailure = node;
            }
        }

        void addPlace(int t) {
            placeType[placeCount] = t;
            placeCount++;
        }

        /** The first of n new branches; NONE when the tree gets too large by them. */
        int addBranches(int node, int n) {
            if (size + n > MOST) {
                tooLarge = true;
                return NONE;
            }
            int first = size;
            for (int i = 0; i < n; i++) {
                parent[size] = node;
                size++;
            }
            if (node != NONE) {
                firstBranch[node] = first;
                branches[node] = n;
            }
            return first;
        }

        int placeOfName(int node, int name) {
            return nameAt[node * MOST_NAMES + name];
        }
    }

    /** Cells of three numbers, the third often the next cell: lists that share their ends. */
    private static final class Cells {
        int size = 0;
        int[] first = new int[256];
        int[] second = new int[256];
        int[] third = new int[256];

        int add(int a, int b, int c) {
            if (size == first.length) {
                first = Arrays.copyOf(first, size * 2);
                second = Arrays.copyOf(second, size * 2);
                third = Arrays.copyOf(third, size * 2);
            }
            first[size] = a;
            second[size] = b;
            third[size] = c;
            size++;
            return size - 1;
        }
    }

    /**
     * Makes the tree of a match. A row in the making is a cell of states: which row of the match it
     * is, the list of its patterns that are not ANY, with their places, from the left to the right,
     * and the list of its names with theirs. A row with ANY at a test's place goes on unchanged, so
     * rows of several branches share one cell.
     */
    private static final class Builder {
        static final int MOST_TOGETHER = 24;
        static final int MOST_LISTED = MOST_PARTS * LARGEST_PATTERN;

        final Types types;
        final Terms patterns;
        final Cells states = new Cells();
        final Cells lists = new Cells();
        final int[] pending = new int[Tree.MOST];
        int waiting = 0;
        final int[] nodeRows = new int[Tree.MOST * MOST_TOGETHER];
        final int[] nodeRowCount = new int[Tree.MOST];
        final int[] rows = new int[MOST_TOGETHER];
        int rowCount = 0;
        final int[] labels = new int[MOST_TOGETHER];
        int labelCount = 0;
        final int[] parts = new int[MOST_PARTS];
        int partCount = 0;
        final int[] before = new int[MOST_LISTED];
        int names = NONE;
        Match match = null;
        Tree tree = null;

        Builder(Types types, Terms patterns) {
            this.types = types;
            this.patterns = patterns;
        }

        /** Whether the tree of a match is not too large; it is made anew only after a new row. */
        boolean stands(Match wanted) {
            if (!wanted.stale) {
                return !wanted.tree.tooLarge;
            }
            begin(wanted);
            for (int i = 0; i < Tree.MOST && waiting > 0 && !tree.tooLarge; i++) {
                waiting--;
                int node = pending[waiting];
                loadRows(node);
                splitFirst();
                int place = placeThatCounts();
                splitAll(place);
                if (place == NONE) {
                    endNode(node);
                } else {
                    growTest(node, place);
                }
            }
            wanted.stale = false;
            return !tree.tooLarge;
        }

        private void begin(Match wanted) {
            match = wanted;
            tree = wanted.tree;
            tree.clear();
            states.size = 0;
            lists.size = 0;
            waiting = 0;
            for (int i = 0; i < match.places; i++) {
                tree.addPlace(match.types[i]);
            }
            int root = tree.addBranches(NONE, 1);
            nodeRowCount[root] = 0;
            for (int r = 0; r < match.rows; r++) {
                partCount = match.places;
                for (int i = 0; i < match.places; i++) {
                    parts[i] = match.patternOf(r, i);
                }
                keep(root, putParts(states.add(r, NONE, NONE), NONE, 0));
            }
            putOff(root, 1);
        }

        private void keep(int node, int state) {
            nodeRows[node * MOST_TOGETHER + nodeRowCount[node]] = state;
            nodeRowCount[node]++;
        }

        /** The last branch first, so that nodes are met in the order in which failures count. */
        private void putOff(int firstNode, int n) {
            for (int i = n - 1; i >= 0; i--) {
                pending[waiting] = firstNode + i;
                waiting++;
            }
        }

        private void loadRows(int node) {
            rowCount = nodeRowCount[node];
            System.arraycopy(nodeRows, node * MOST_TOGETHER, rows, 0, rowCount);
        }

        /** NONE when there are no rows, or the first one has only ANY. */
        private int placeThatCounts() {
            if (rowCount == 0 || states.second[rows[0]] == NONE) {
                return NONE;
            }
            return lists.first[states.second[rows[0]]];
        }

        /** Its first half may have ANY there: then another place counts, so that is asked anew. */
        private void splitFirst() {
            int place = placeThatCounts();
            for (int i = 0; i < MOST_TOGETHER && isEither(0, place) && !tree.tooLarge; i++) {
                split(0, place);
                place = placeThatCounts();
            }
        }

        private void splitAll(int place) {
            for (int i = 0; i < MOST_TOGETHER && i < rowCount; i++) {
                for (int k = 0; k < MOST_TOGETHER && isEither(i, place) && !tree.tooLarge; k++) {
                    split(i, place);
                }
            }
        }

        private boolean isEither(int i, int place) {
            int p = i < rowCount ? patternAt(rows[i], place) : NONE;
            return p != NONE && patterns.kind[p] == Terms.EITHER;
        }

        private void split(int i, int place) {
            if (rowCount == MOST_TOGETHER) {
                tree.tooLarge = true;
                return;
            }
            int state = rows[i];
            int p = patternAt(state, place);
            for (int k = rowCount; k > i; k--) {
                rows[k] = rows[k - 1];
            }
            rowCount++;
            partCount = 1;
            parts[0] = patterns.partOf(p, 0);
            rows[i] = putParts(state, place, place);
            parts[0] = patterns.partOf(p, 1);
            rows[i + 1] = putParts(state, place, place);
        }

        /** NONE for ANY. */
        private int patternAt(int state, int place) {
            int cell = states.second[state];
            for (int i = 0; i < MOST_LISTED && cell != NONE; i++) {
                if (lists.first[cell] == place) {
                    return lists.second[cell];
                }
                cell = lists.third[cell];
            }
            return NONE;
        }

        /** The row with the parts, at places from one on, where it had a pattern at a place. */
        private int putParts(int state, int place, int firstPlace) {
            int cell = states.second[state];
            int n = 0;
            while (n < MOST_LISTED && cell != NONE && lists.first[cell] != place) {
                before[n] = cell;
                n++;
                cell = lists.third[cell];
            }
            int list = cell == NONE ? NONE : lists.third[cell];
            names = states.third[state];
            for (int i = partCount - 1; i >= 0; i--) {
                int left = stripNames(parts[i], firstPlace + i);
                if (left != NONE) {
                    list = lists.add(firstPlace + i, left, list);
                }
            }
            for (int i = n - 1; i >= 0; i--) {
                list = lists.add(lists.first[before[i]], lists.second[before[i]], list);
            }
            return states.add(states.first[state], list, names);
        }

        /** What is left of a pattern, NONE for ANY, once its names are told to be at a place. */
        private int stripNames(int p, int place) {
            int left = p;
            for (int i = 0; i < LARGEST_PATTERN && patterns.kind[left] == Terms.ALSO; i++) {
                names = lists.add(place, patterns.label[left], names);
                left = patterns.partOf(left, 0);
            }
            if (patterns.kind[left] == Terms.NAME) {
                names = lists.add(place, patterns.label[left], names);
                return NONE;
            }
            return patterns.kind[left] == Terms.ANY ? NONE : left;
        }

        /** Behind this node nothing is tested for the first row: it fails, takes it, or asks. */
        private void endNode(int node) {
            if (tree.tooLarge) {
                return;
            }
            if (rowCount == 0) {
                tree.become(node, Tree.FAILURE);
                return;
            }
            int state = rows[0];
            int row = states.first[state];
            tree.row[node] = row;
            tree.needed |= 1 << row;
            tellNames(node, states.third[state]);
            if (!match.isGuarded(row)) {
                tree.become(node, Tree.TAKEN);
                return;
            }
            tree.become(node, Tree.QUESTION);
            int rest = tree.addBranches(node, 1);
            if (rest != NONE) {
                nodeRowCount[rest] = 0;
                for (int i = 1; i < rowCount; i++) {
                    keep(rest, rows[i]);
                }
                putOff(rest, 1);
            }
        }

        private void tellNames(int node, int list) {
            int base = node * MOST_NAMES;
            for (int name = 0; name < MOST_NAMES; name++) {
                tree.nameAt[base + name] = NONE;
            }
            int cell = list;
            for (int i = 0; i < MOST_NAMES && cell != NONE; i++) {
                tree.nameAt[base + lists.second[cell]] = lists.first[cell];
                cell = lists.third[cell];
            }
        }

        private void growTest(int node, int place) {
            if (tree.tooLarge) {
                return;
            }
            gatherLabels(place);
            int t = tree.placeType[place];
            boolean more = t == NUMBERS || labelCount < types.makers[t];
            int n = more ? labelCount + 1 : labelCount;
            tree.become(node, Tree.TEST);
            tree.place[node] = place;
            int branch = tree.addBranches(node, n);
            if (branch == NONE) {
                return;
            }
            for (int i = 0; i < labelCount; i++) {
                growBranch(branch + i, place, labels[i], false);
            }
            if (more) {
                growBranch(branch + labelCount, place, leastAbsent(), true);
            }
            putOff(branch, n);
        }

        private void gatherLabels(int place) {
            labelCount = 0;
            for (int i = 0; i < rowCount; i++) {
                int p = patternAt(rows[i], place);
                if (p != NONE) {
                    gatherLabel(patterns.label[p]);
                }
            }
        }

        private void gatherLabel(int label) {
            int at = 0;
            while (at < labelCount && labels[at] < label) {
                at++;
            }
            if (at < labelCount && labels[at] == label) {
                return;
            }
            for (int i = labelCount; i > at; i--) {
                labels[i] = labels[i - 1];
            }
            labels[at] = label;
            labelCount++;
        }

        /** The labels are in order, so one pass finds the least from 0 on that is not among them. */
        private int leastAbsent() {
            int least = 0;
            for (int i = 0; i < labelCount; i++) {
                if (labels[i] == least) {
                    least++;
                }
            }
            return least;
        }

        private void growBranch(int node, int place, int label, boolean others) {
            tree.label[node] = label;
            tree.others[node] = others;
            tree.firstPlace[node] = tree.placeCount;
            int t = tree.placeType[place];
            int n = types.partsOf(t, label);
            // Others get places too, for the missing values: no row ever looks there.
            for (int i = 0; i < n; i++) {
                tree.addPlace(types.partTypeOf(t, label, i));
            }
            nodeRowCount[node] = 0;
            for (int i = 0; i < rowCount; i++) {
                int p = patternAt(rows[i], place);
                if (p == NONE) {
                    keep(node, rows[i]);
                } else if (!others && patterns.label[p] == label) {
                    partCount = n;
                    for (int k = 0; k < n; k++) {
                        parts[k] = patterns.partOf(p, k);
                    }
                    keep(node, putParts(rows[i], place, tree.firstPlace[node]));
                }
            }
        }
    }

    /** A way through a tree by values, and what it found. */
    private static final class Walk {
        final Terms values;
        final int[] standsFor = new int[MOST_NAMES];
        int tests = 0;
        int questions = 0;
        final int[] at = new int[Tree.MOST_PLACES];

        Walk(Terms values) {
            this.values = values;
            Arrays.fill(standsFor, NONE);
        }

        /** As before any run, and after one without such a match or value. */
        void clear() {
            Arrays.fill(standsFor, NONE);
            tests = 0;
            questions = 0;
        }

        int follow(Match match, int[] given) {
            clear();
            System.arraycopy(given, 0, at, 0, match.places);
            Tree tree = match.tree;
            int node = 0;
            for (int i = 0; i < Tree.MOST && tree.kind[node] != Tree.FAILURE; i++) {
                if (tree.kind[node] == Tree.TEST) {
                    tests++;
                    node = branchOf(tree, node);
                } else if (tree.kind[node] == Tree.TAKEN || asks(match, node)) {
                    bind(tree, node);
                    return tree.row[node];
                } else {
                    node = tree.firstBranch[node];
                }
            }
            return NONE;
        }

        private int branchOf(Tree tree, int node) {
            int v = at[tree.place[node]];
            int branch = tree.firstBranch[node];
            int last = branch + tree.branches[node] - 1;
            while (branch < last && tree.label[branch] != values.label[v]) {
                branch++;
            }
            if (!tree.others[branch]) {
                openParts(v, tree.firstPlace[branch]);
            }
            return branch;
        }

        private void openParts(int v, int firstPlace) {
            for (int i = 0; i < values.partCount[v]; i++) {
                at[firstPlace + i] = values.partOf(v, i);
            }
        }

        private boolean asks(Match match, int node) {
            questions++;
            int row = match.tree.row[node];
            int x = match.tree.placeOfName(node, match.less[row]);
            int y = match.tree.placeOfName(node, match.more[row]);
            return x != NONE && y != NONE && values.label[at[x]] < values.label[at[y]];
        }

        private void bind(Tree tree, int node) {
            for (int name = 0; name < MOST_NAMES; name++) {
                int place = tree.placeOfName(node, name);
                if (place != NONE) {
                    standsFor[name] = at[place];
                }
            }
        }
    }

    /** Which row values take by the patterns alone, without a tree. */
    private static final class Judge {
        final Terms patterns;
        final Terms values;
        final int[] standsFor = new int[MOST_NAMES];

        Judge(Terms patterns, Terms values) {
            this.patterns = patterns;
            this.values = values;
        }

        int rowFor(Match match, int[] given) {
            for (int r = 0; r < match.rows; r++) {
                if (allFit(match, r, given) && (!match.isGuarded(r) || holds(match, r))) {
                    return r;
                }
            }
            return NONE;
        }

        private boolean allFit(Match match, int r, int[] given) {
            for (int i = 0; i < match.places; i++) {
                if (!fits(match.patternOf(r, i), given[i], 0)) {
                    return false;
                }
            }
            return true;
        }

        /** A row with a guard has no EITHER, so all its names are told once it fits. */
        private boolean holds(Match match, int r) {
            int x = standsFor[match.less[r]];
            int y = standsFor[match.more[r]];
            return values.label[x] < values.label[y];
        }

        private boolean fits(int p, int v, int depth) {
            if (depth > LARGEST_PATTERN) {
                return false;
            }
            switch (patterns.kind[p]) {
                case Terms.ANY:
                    return true;
                case Terms.NAME:
                    standsFor[patterns.label[p]] = v;
                    return true;
                case Terms.ALSO:
                    standsFor[patterns.label[p]] = v;
                    return fits(patterns.partOf(p, 0), v, depth + 1);
                case Terms.EITHER:
                    return fits(patterns.partOf(p, 0), v, depth + 1)
                        || fits(patterns.partOf(p, 1), v, depth + 1);
                case Terms.NUMBER:
                    return patterns.label[p] == values.label[v];
                default:
                    return patterns.label[p] == values.label[v] && partsFit(p, v, depth);
            }
        }

        private boolean partsFit(int p, int v, int depth) {
            int n = patterns.partCount[p];
            for (int i = 0; i < n; i++) {
                if (!fits(patterns.partOf(p, i), values.partOf(v, i), depth + 1)) {
                    return false;
                }
            }
            return true;
        }
    }

    /** Tells the missing values of a match as one row of numbers. */
    private static final class Teller {
        static final int MOST = 4000;
        /** Two wait at each level at most; there are some fifty levels, the plain ones too. */
        static final int MOST_OPEN = 160;

        final Types types;
        int[] told = new int[MOST];
        int[] draft = new int[MOST];
        int size = 0;
        final int[] branchAt = new int[Tree.MOST_PLACES];
        final int[] open = new int[MOST_OPEN];

        Teller(Types types) {
            this.types = types;
        }

        int tell(Match match) {
            if (match.tree.firstFailure == NONE) {
                size = 0;
                return 0;
            }
            markWay(match.tree);
            int n = spell(match);
            if (n > MOST) {
                return FULL;
            }
            int[] kept = told;
            told = draft;
            draft = kept;
            size = n;
            return n;
        }

        private void markWay(Tree tree) {
            Arrays.fill(branchAt, NONE);
            int node = tree.firstFailure;
            for (int i = 0; i < Tree.MOST && tree.parent[node] != NONE; i++) {
                int from = tree.parent[node];
                if (tree.kind[from] == Tree.TEST) {
                    branchAt[tree.place[from]] = node;
                }
                node = from;
            }
        }

        /** What is open is a place, or, below 0, a type of which the plain value comes. */
        private int spell(Match match) {
            Tree tree = match.tree;
            int top = 0;
            for (int i = match.places - 1; i >= 0; i--) {
                open[top] = i;
                top++;
            }
            int n = 0;
            while (top > 0 && n <= MOST) {
                top--;
                int item = open[top];
                int t = item < 0 ? ~item : tree.placeType[item];
                int branch = item < 0 ? NONE : branchAt[item];
                int label = branch == NONE ? types.plainMaker[t] : tree.label[branch];
                if (n < MOST) {
                    draft[n] = label;
                }
                n++;
                for (int i = types.partsOf(t, label) - 1; i >= 0 && top < MOST_OPEN; i--) {
                    open[top] = branch == NONE
                        ? ~types.partTypeOf(t, label, i) : tree.firstPlace[branch] + i;
                    top++;
                }
            }
            return n;
        }
    }
}

/**
 * A desk that orders columns so that in each taken line its ones stand side by side.
 *
 * Whether a column may come next in a row hangs only on the SET of columns that stand already: a
 * line that has begun and is not at its end lets none but its own columns on. So all GOOD rows are
 * the ways from the empty set to the full one through at most 256 sets, and no call keeps a list
 * of them. (Only within walks along many, and leaves a way as soon as its answer is sure.)
 */
public final class OnesDesk {
    private static final int MOST_COLUMNS = 8;
    private static final int SETS = 256;
    private static final int MOST_LINES = 40;
    private static final int MOST_WEIGHT = 100;
    /** A tree with 8 leaves, in which each other knot has two parts or more. */
    private static final int MOST_KNOTS = 15;

    private static final int NOBODY = -1;
    private static final int OTHER = -2;
    private static final int STATE = -3;
    private static final int BELOW = -4;
    private static final int ROOM = -6;
    private static final int NONE = -9;
    private static final int REFUSAL_KINDS = 6;

    private static final int TAKEN = 0;
    private static final int LEFT = 1;
    private static final int DROPPED = 2;

    private static final int LEAF = 0;
    private static final int PAIR = 1;
    private static final int FREE = 2;
    private static final int FIXED = 3;

    private final Lines lines;
    private final Rows good;
    /** Rows to try something on; what it holds is worth nothing after the call. */
    private final Rows trial;
    private final Tree tree;
    private final Savings savings;
    /** One row written out, place by place, for the call that is under way. */
    private final int[] written;
    /** How often each refusal was told, at the number's place without its sign. */
    private final int[] refusals;
    private int columns;
    private boolean treeIsOld;
    private boolean savingsAreOld;

    public OnesDesk() {
        lines = new Lines();
        good = new Rows();
        trial = new Rows();
        tree = new Tree();
        savings = new Savings();
        written = new int[MOST_COLUMNS];
        refusals = new int[REFUSAL_KINDS + 1];
        layTable(1);
    }

    public int table(int n) {
        if (n < 1) {
            return refuse(BELOW);
        }
        if (n > MOST_COLUMNS) {
            return refuse(ROOM);
        }
        layTable(n);
        return 1;
    }

    public int line(int set) {
        if (!isSet(set)) {
            return refuse(OTHER);
        }
        if (lines.told >= MOST_LINES) {
            return refuse(ROOM);
        }
        int line = lines.add(set);
        takeOrLeave(line);
        return line;
    }

    public int drop(int line) {
        if (!lines.has(line)) {
            return refuse(NOBODY);
        }
        int before = lines.states[line];
        if (before == DROPPED) {
            return refuse(STATE);
        }
        lines.states[line] = DROPPED;
        if (before == TAKEN) {
            keepTaken(good, NONE);
            good.closeDeadWays();
        }
        forgetDerived();
        return 1;
    }

    public int again(int line) {
        if (!lines.has(line)) {
            return refuse(NOBODY);
        }
        if (lines.states[line] == TAKEN) {
            return refuse(STATE);
        }
        takeOrLeave(line);
        return lines.states[line] == TAKEN ? 1 : 0;
    }

    public int weight(int line, int w) {
        if (!lines.has(line)) {
            return refuse(NOBODY);
        }
        if (w < 0) {
            return refuse(BELOW);
        }
        if (w > MOST_WEIGHT) {
            return refuse(ROOM);
        }
        int before = lines.weights[line];
        lines.weights[line] = w;
        savingsAreOld = true;
        return before;
    }

    public int lineOf(int line, int what) {
        if (!lines.has(line)) {
            return refuse(NOBODY);
        }
        switch (what) {
            case 0:
                return lines.sets[line];
            case 1:
                return lines.states[line];
            case 2:
                return lines.weights[line];
            case 3:
                return Integer.bitCount(lines.sets[line]);
            default:
                return refuse(OTHER);
        }
    }

    public int why(int line) {
        if (!lines.has(line)) {
            return refuse(NOBODY);
        }
        if (lines.states[line] != LEFT) {
            return refuse(STATE);
        }
        trial.letAll(columns);
        trial.keep(lines.sets[line]);
        for (int other = 0; other < lines.told; other++) {
            if (lines.states[other] == TAKEN) {
                trial.keep(lines.sets[other]);
                if (trial.reckon() == 0) {
                    return other;
                }
            }
        }
        return NONE;
    }

    public int rows() {
        return good.howMany();
    }

    public int row(int i, int place) {
        if (!isRow(i)) {
            return refuse(NOBODY);
        }
        if (place < 0) {
            return refuse(BELOW);
        }
        if (place >= columns) {
            return refuse(ROOM);
        }
        good.write(i, written);
        return written[place];
    }

    public int rank(int row) {
        return good.numberOf(row);
    }

    public int together(int set) {
        if (!isSet(set)) {
            return refuse(OTHER);
        }
        return verdict(rowsWith(set));
    }

    public int round(int set) {
        if (!isSet(set)) {
            return refuse(OTHER);
        }
        int others = allColumns() & ~set;
        int either = rowsWith(set) + rowsWith(others);
        return verdict(either - rowsWithBoth(set, others));
    }

    public int between(int a, int b, int c) {
        if (!areTwo(a, b) || !areTwo(b, c) || !areTwo(a, c)) {
            return refuse(NOBODY);
        }
        trial.copy(good);
        trial.putBetween(a, b, c);
        return verdict(trial.reckon());
    }

    public int next(int a, int b) {
        if (!areTwo(a, b)) {
            return refuse(NOBODY);
        }
        return verdict(rowsWith(1 << a | 1 << b));
    }

    public int ends(int a) {
        if (!isColumn(a)) {
            return refuse(NOBODY);
        }
        trial.copy(good);
        trial.putAtEnds(a);
        return verdict(trial.reckon());
    }

    public int apart(int a, int b, boolean least) {
        if (!areTwo(a, b)) {
            return refuse(NOBODY);
        }
        trial.copy(good);
        return trial.distance(1 << a | 1 << b, least);
    }

    public int knots() {
        growTree();
        return tree.size;
    }

    public int knot(int k, int what) {
        growTree();
        if (k < 0 || k >= tree.size) {
            return refuse(NOBODY);
        }
        if (what < 0 || what >= 4 + tree.partsOf(k)) {
            return refuse(OTHER);
        }
        switch (what) {
            case 0:
                return tree.sets[k];
            case 1:
                return tree.kindOf(k);
            case 2:
                return tree.partsOf(k);
            case 3:
                return tree.above[k];
            default:
                return tree.part(k, what - 4);
        }
    }

    public int join(int a, int b) {
        if (!isColumn(a) || !isColumn(b)) {
            return refuse(NOBODY);
        }
        growTree();
        return tree.leastAround(1 << a | 1 << b, 0);
    }

    public int gaps(int i) {
        if (!isRow(i)) {
            return refuse(NOBODY);
        }
        makeSavings();
        good.write(i, written);
        return savings.gapsOf(written, columns);
    }

    public int best() {
        makeSavings();
        return savings.numberOfBest(good);
    }

    public int within(int gaps) {
        makeSavings();
        return savings.rowsUpTo(good, gaps);
    }

    public int spare(int line) {
        if (!lines.has(line)) {
            return refuse(NOBODY);
        }
        if (lines.states[line] != TAKEN) {
            return refuse(STATE);
        }
        // Without a line no GOOD row is lost, so as many rows are the same rows.
        return keepTaken(trial, line) == good.howMany() ? 1 : 0;
    }

    public int count(int what) {
        if (what > 10 && what <= 10 + REFUSAL_KINDS) {
            return refusals[what - 10];
        }
        switch (what) {
            case 0:
                return columns;
            case 1:
                return lines.told;
            case 2:
                return lines.howMany(TAKEN);
            case 3:
                return lines.howMany(LEFT);
            case 4:
                return lines.howMany(DROPPED);
            default:
                return NONE;
        }
    }

    private int refuse(int number) {
        if (number < 0 && number >= -REFUSAL_KINDS) {
            refusals[-number]++;
        }
        return number;
    }

    private void layTable(int n) {
        columns = n;
        lines.told = 0;
        good.letAll(n);
        good.reckon();
        forgetDerived();
    }

    private int allColumns() {
        return (1 << columns) - 1;
    }

    private boolean isColumn(int column) {
        return column >= 0 && column < columns;
    }

    private boolean areTwo(int a, int b) {
        return isColumn(a) && isColumn(b) && a != b;
    }

    private boolean isSet(int set) {
        return (set & ~allColumns()) == 0;
    }

    private boolean isRow(int i) {
        return i >= 0 && i < good.howMany();
    }

    /** 2 in each GOOD row, 1 in some, 0 in none. */
    private int verdict(int some) {
        if (some == good.howMany()) {
            return 2;
        }
        return some > 0 ? 1 : 0;
    }

    private int rowsWith(int set) {
        return rowsWithBoth(set, 0);
    }

    private int rowsWithBoth(int set, int other) {
        trial.copy(good);
        trial.keep(set);
        trial.keep(other);
        return trial.reckon();
    }

    private void takeOrLeave(int line) {
        int set = lines.sets[line];
        if (rowsWith(set) > 0) {
            lines.states[line] = TAKEN;
            good.keep(set);
            good.reckon();
            good.closeDeadWays();
        } else {
            lines.states[line] = LEFT;
        }
        forgetDerived();
    }

    /** Keeps all TAKEN lines but one (NONE: all) together; how many rows that leaves. */
    private int keepTaken(Rows rows, int without) {
        rows.letAll(columns);
        for (int line = 0; line < lines.told; line++) {
            if (line != without && lines.states[line] == TAKEN) {
                rows.keep(lines.sets[line]);
            }
        }
        return rows.reckon();
    }

    private void forgetDerived() {
        treeIsOld = true;
        savingsAreOld = true;
    }

    private void growTree() {
        if (treeIsOld) {
            good.write(0, written);
            tree.grow(good, written);
            treeIsOld = false;
        }
    }

    private void makeSavings() {
        if (savingsAreOld) {
            savings.weigh(lines);
            savings.lookAhead(good);
            savingsAreOld = false;
        }
    }

    /** The lines that were told, by their numbers. */
    private static final class Lines {
        private final int[] sets = new int[MOST_LINES];
        private final int[] states = new int[MOST_LINES];
        private final int[] weights = new int[MOST_LINES];
        private int told;

        boolean has(int line) {
            return line >= 0 && line < told && line < MOST_LINES;
        }

        /** A line's number; the caller has seen that there is room, and says next how it stands. */
        int add(int set) {
            int line = told;
            if (line < MOST_LINES) {
                sets[line] = set;
                states[line] = LEFT;
                weights[line] = 1;
                told++;
            }
            return line;
        }

        int howMany(int state) {
            int sum = 0;
            for (int line = 0; line < told; line++) {
                if (states[line] == state) {
                    sum++;
                }
            }
            return sum;
        }
    }

    /** A collection of rows, as ways through the sets of columns that stand already. */
    private static final class Rows {
        /** By the set that stands: the columns that may come next. */
        private final int[] open = new int[SETS];
        /** By the set that stands: in how many orders the others may follow. */
        private final int[] ways = new int[SETS];
        private int columns;
        private int full;

        void letAll(int n) {
            columns = n;
            full = (1 << n) - 1;
            for (int set = 0; set <= full; set++) {
                open[set] = full & ~set;
            }
        }

        void copy(Rows other) {
            columns = other.columns;
            full = other.full;
            for (int set = 0; set <= full; set++) {
                open[set] = other.open[set];
                ways[set] = other.ways[set];
            }
        }

        /** Leaves only the rows in which a set stands together; reckon() tells how many. */
        void keep(int kept) {
            for (int set = 0; set <= full; set++) {
                boolean begun = (kept & set) != 0;
                boolean unended = (kept & ~set) != 0;
                if (begun && unended) {
                    open[set] &= kept;
                }
            }
        }

        /** Leaves only the rows with b between a and c: one of them stands before b comes. */
        void putBetween(int a, int b, int c) {
            for (int set = 0; set <= full; set++) {
                if ((set >> a & 1) == (set >> c & 1)) {
                    open[set] &= ~(1 << b);
                }
            }
        }

        void putAtEnds(int column) {
            int others = full & ~(1 << column);
            for (int set = 1; set <= full; set++) {
                if (set != others) {
                    open[set] &= ~(1 << column);
                }
            }
        }

        int reckon() {
            ways[full] = 1;
            for (int set = full - 1; set >= 0; set--) {
                int sum = 0;
                if (open[set] != 0) {
                    for (int column = 0; column < columns; column++) {
                        if (mayFollow(set, column)) {
                            sum += ways[set | 1 << column];
                        }
                    }
                }
                ways[set] = sum;
            }
            return ways[0];
        }

        /** After reckon(): leaves open only what some row really goes through. */
        void closeDeadWays() {
            for (int set = 0; set <= full; set++) {
                if (!isReached(set)) {
                    open[set] = 0;
                }
                for (int column = 0; column < columns; column++) {
                    if (mayFollow(set, column) && ways[set | 1 << column] == 0) {
                        open[set] &= ~(1 << column);
                    }
                }
            }
        }

        /** Lesser sets must have been closed where they are not reached. */
        private boolean isReached(int set) {
            for (int column = 0; column < columns; column++) {
                if ((set >> column & 1) == 1 && mayFollow(set & ~(1 << column), column)) {
                    return true;
                }
            }
            return set == 0;
        }

        boolean mayFollow(int set, int column) {
            return (open[set] >> column & 1) == 1;
        }

        int howMany() {
            return ways[0];
        }

        /** How many rows begin with a column less than this one where the set stands. */
        int rowsAhead(int set, int column) {
            int sum = 0;
            for (int lesser = 0; lesser < column; lesser++) {
                if (mayFollow(set, lesser)) {
                    sum += ways[set | 1 << lesser];
                }
            }
            return sum;
        }

        /** Writes the row of a number, which there must be. */
        void write(int number, int[] into) {
            int set = 0;
            int rest = number;
            for (int place = 0; place < columns; place++) {
                int column = columnOfRest(set, rest);
                rest -= rowsAhead(set, column);
                into[place] = column;
                set |= 1 << column;
            }
        }

        private int columnOfRest(int set, int rest) {
            int left = rest;
            for (int column = 0; column < columns; column++) {
                if (mayFollow(set, column)) {
                    int next = ways[set | 1 << column];
                    if (left < next) {
                        return column;
                    }
                    left -= next;
                }
            }
            return 0;
        }

        /** The number of a row that is told by 4 bits a column, NONE if it is not among these. */
        int numberOf(int row) {
            // A shift by 32 would be none at all; 8 columns leave no bits ahead.
            if (columns < MOST_COLUMNS && row >>> 4 * columns != 0) {
                return NONE;
            }
            int set = 0;
            int number = 0;
            for (int place = 0; place < columns; place++) {
                int column = row >>> 4 * (columns - 1 - place) & 15;
                if (!mayFollow(set, column)) {
                    return NONE;
                }
                number += rowsAhead(set, column);
                set |= 1 << column;
            }
            return number;
        }

        /**
         * The least or the greatest distance of the two columns of a pair: as many places as there
         * are beginnings of the row with just one of them. Takes rows without dead ways, and writes
         * the distances over the ways.
         */
        int distance(int pair, boolean least) {
            ways[full] = 0;
            for (int set = full - 1; set >= 0; set--) {
                int here = Integer.bitCount(set & pair) == 1 ? 1 : 0;
                ways[set] = here + distanceBehind(set, least);
            }
            return ways[0];
        }

        private int distanceBehind(int set, boolean least) {
            int found = NONE;
            for (int column = 0; column < columns; column++) {
                if (mayFollow(set, column)) {
                    int behind = ways[set | 1 << column];
                    if (found == NONE || (least ? behind < found : behind > found)) {
                        found = behind;
                    }
                }
            }
            return found;
        }

        /** Whether a set stands together in each row; takes rows without dead ways. */
        boolean alwaysTogether(int kept) {
            for (int set = 0; set <= full; set++) {
                boolean letsOthers = (open[set] & ~kept) != 0;
                if (letsOthers && (kept & set) != 0 && (kept & ~set) != 0) {
                    return false;
                }
            }
            return true;
        }
    }

    /** The knots, by their numbers. */
    private static final class Tree {
        private final int[] sets = new int[MOST_KNOTS];
        /** The knot of which each is a part. */
        private final int[] above = new int[MOST_KNOTS];
        /** By the set: whether it stands together in each good row. */
        private final boolean[] firm = new boolean[SETS];
        private final int[] firstRow = new int[MOST_COLUMNS];
        private int size;
        private int columns;

        void grow(Rows good, int[] first) {
            columns = good.columns;
            for (int place = 0; place < columns; place++) {
                firstRow[place] = first[place];
            }
            for (int set = 0; set <= good.full; set++) {
                firm[set] = good.alwaysTogether(set);
            }
            size = 0;
            for (int many = 1; many <= columns; many++) {
                addKnots(many, good.full);
            }
            for (int k = 0; k < size; k++) {
                above[k] = leastAround(sets[k], k + 1);
            }
        }

        private void addKnots(int many, int full) {
            for (int set = 1; set <= full; set++) {
                if (Integer.bitCount(set) == many && isKnot(set, full) && size < MOST_KNOTS) {
                    sets[size] = set;
                    size++;
                }
            }
        }

        private boolean isKnot(int set, int full) {
            if (!firm[set]) {
                return false;
            }
            for (int other = 1; other <= full; other++) {
                if (firm[other] && crosses(set, other)) {
                    return false;
                }
            }
            return true;
        }

        private static boolean crosses(int set, int other) {
            return (set & other) != 0 && (set & ~other) != 0 && (other & ~set) != 0;
        }

        /**
         * The first knot, from one on, that has all of a set. Knots around a set lie one within the
         * other and have numbers by their size, so the first is the least.
         */
        int leastAround(int set, int from) {
            for (int k = from; k < size; k++) {
                if ((set & ~sets[k]) == 0) {
                    return k;
                }
            }
            return NONE;
        }

        int partsOf(int k) {
            int parts = 0;
            for (int other = 0; other < k; other++) {
                if (above[other] == k) {
                    parts++;
                }
            }
            return parts;
        }

        /** Part i in the order of good row 0. */
        int part(int k, int i) {
            int seen = 0;
            int passed = 0;
            for (int place = 0; place < columns; place++) {
                int column = 1 << firstRow[place];
                int part = partWith(k, column & ~seen);
                if (part != NONE) {
                    if (passed == i) {
                        return part;
                    }
                    passed++;
                    seen |= sets[part];
                }
            }
            return NONE;
        }

        private int partWith(int k, int column) {
            for (int other = 0; other < k; other++) {
                if (above[other] == k && (sets[other] & column) != 0) {
                    return other;
                }
            }
            return NONE;
        }

        int kindOf(int k) {
            int parts = partsOf(k);
            if (parts == 0) {
                return LEAF;
            }
            if (parts == 2) {
                return PAIR;
            }
            int first = part(k, 0);
            int second = part(k, 1);
            if (first == NONE || second == NONE) {
                return FREE;
            }
            // Parts that may stand in any order part any two of them in some row.
            return firm[sets[first] | sets[second]] ? FIXED : FREE;
        }
    }

    /**
     * The gaps of rows. A LEFT line has as many gaps as it has columns, less 1, less 1 for each two
     * neighbours that are both its own: so what a row saves hangs on its neighbours alone.
     */
    private static final class Savings {
        /** The last column of a row in which none stands yet; with it nothing is saved. */
        private static final int NO_COLUMN = 8;
        private static final int LASTS = 9;

        /** By a column and the next one: the weight of the LEFT lines that have both. */
        private final int[] saved = new int[LASTS * MOST_COLUMNS];
        /** By the set that stands and its last column: the most that the others can save. */
        private final int[] most = new int[SETS * LASTS];
        private final int[] least = new int[SETS * LASTS];
        /** Gaps of a row that would save nothing. */
        private int unsaved;

        void weigh(Lines lines) {
            unsaved = 0;
            for (int at = 0; at < LASTS * MOST_COLUMNS; at++) {
                saved[at] = 0;
            }
            for (int line = 0; line < lines.told; line++) {
                if (lines.states[line] == LEFT) {
                    addLine(lines.sets[line], lines.weights[line]);
                }
            }
        }

        private void addLine(int set, int weight) {
            unsaved += weight * (Integer.bitCount(set) - 1);
            for (int a = 0; a < MOST_COLUMNS; a++) {
                for (int b = 0; b < MOST_COLUMNS; b++) {
                    if (a != b && (set >> a & 1) == 1 && (set >> b & 1) == 1) {
                        saved[a * MOST_COLUMNS + b] += weight;
                    }
                }
            }
        }

        void lookAhead(Rows good) {
            for (int set = good.full; set > 0; set--) {
                for (int last = 0; last < good.columns; last++) {
                    if ((set >> last & 1) == 1) {
                        lookAheadFrom(good, set, last);
                    }
                }
            }
            lookAheadFrom(good, 0, NO_COLUMN);
        }

        private void lookAheadFrom(Rows good, int set, int last) {
            int high = 0;
            int low = NONE;
            for (int column = 0; column < good.columns; column++) {
                if (good.mayFollow(set, column)) {
                    int now = saved[last * MOST_COLUMNS + column];
                    int then = (set | 1 << column) * LASTS + column;
                    high = Math.max(high, now + most[then]);
                    low = low == NONE ? now + least[then] : Math.min(low, now + least[then]);
                }
            }
            most[set * LASTS + last] = high;
            least[set * LASTS + last] = Math.max(low, 0);
        }

        int gapsOf(int[] row, int columns) {
            int sum = unsaved;
            for (int place = 1; place < columns; place++) {
                sum -= saved[row[place - 1] * MOST_COLUMNS + row[place]];
            }
            return sum;
        }

        int numberOfBest(Rows good) {
            int set = 0;
            int last = NO_COLUMN;
            int number = 0;
            for (int place = 0; place < good.columns; place++) {
                int column = bestColumn(good, set, last);
                number += good.rowsAhead(set, column);
                set |= 1 << column;
                last = column;
            }
            return number;
        }

        private int bestColumn(Rows good, int set, int last) {
            for (int column = 0; column < good.columns; column++) {
                if (good.mayFollow(set, column)) {
                    int then = most[(set | 1 << column) * LASTS + column];
                    if (saved[last * MOST_COLUMNS + column] + then == most[set * LASTS + last]) {
                        return column;
                    }
                }
            }
            return 0;
        }

        int rowsUpTo(Rows good, int gaps) {
            if (gaps < 0) {
                return 0;
            }
            if (gaps >= unsaved) {
                return good.howMany();
            }
            return rowsThatSave(this, good, 0, NO_COLUMN, unsaved - gaps, 0);
        }

        /** How many ways on from a set and its last column save so much, or more. */
        private static int rowsThatSave(
                Savings by, Rows good, int set, int last, int wanted, int depth) {
            int at = set * LASTS + last;
            if (wanted > by.most[at] || depth > MOST_COLUMNS) {
                return 0;
            }
            if (wanted <= by.least[at]) {
                return good.ways[set];
            }
            int sum = 0;
            for (int column = 0; column < good.columns; column++) {
                if (good.mayFollow(set, column)) {
                    int rest = wanted - by.saved[last * MOST_COLUMNS + column];
                    sum += rowsThatSave(by, good, set | 1 << column, column, rest, depth + 1);
                }
            }
            return sum;
        }
    }
}

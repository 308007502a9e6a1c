/**
 * Rows of whole numbers over four words that are to hold together, by layers; whether they can, by
 * which numbers, and a log of lines that proves that they can't.
 */
public final class BoxProver {
    public static final int NONE = -1;

    private static final int WORDS = 4;
    private static final int WORD_MOST = 15;
    private static final int NO_VALUE = -100;

    private static final int NOTHING_KNOWN = 0;
    private static final int FIRST_KNOWN = 1;
    private static final int ALL_KNOWN = 2;

    private final Rows rows;
    private final Log log;
    /** Keeps what it found until the rows change. */
    private final Search search;
    private int known;

    public BoxProver() {
        rows = new Rows();
        log = new Log();
        search = new Search(rows);
        known = NOTHING_KNOWN;
    }

    public int row(int kind, int c0, int c1, int c2, int c3, int bound) {
        int number = rows.append(kind, c0, c1, c2, c3, bound);
        if (number != NONE) {
            startAnew();
        }
        return number;
    }

    public int push() {
        int layers = rows.beginLayer();
        if (layers != NONE) {
            startAnew();
        }
        return layers;
    }

    public int pop() {
        int dropped = rows.dropLayer();
        if (dropped != NONE) {
            startAnew();
        }
        return dropped;
    }

    public int ofRow(int i, int what) {
        return rows.has(i) && what >= 0 && what < Rows.CELLS ? rows.cell(i, what) : Integer.MIN_VALUE;
    }

    public boolean decide() {
        learn(FIRST_KNOWN);
        return search.found() > 0;
    }

    public int first(int word) {
        if (!isWord(word)) {
            return NO_VALUE;
        }
        learn(FIRST_KNOWN);
        return search.found() > 0 ? search.firstValue(word) : NO_VALUE;
    }

    public int solutions() {
        learn(ALL_KNOWN);
        return search.found();
    }

    public int range(int word, boolean most) {
        if (!isWord(word)) {
            return NO_VALUE;
        }
        learn(ALL_KNOWN);
        if (search.found() == 0) {
            return NO_VALUE;
        }
        return most ? search.greatestValue(word) : search.leastValue(word);
    }

    public int assume(int row, boolean turned) {
        if (!rows.has(row) || turned && !rows.isEquality(row)) {
            return NONE;
        }
        int sign = turned ? -1 : 1;
        for (int w = 0; w < WORDS; w++) {
            log.draftNumber(w, sign * rows.factor(row, w));
        }
        log.draftBound(sign * rows.limit(row));
        return log.appendDraft();
    }

    public int bound(int word, boolean lower) {
        if (!isWord(word)) {
            return NONE;
        }
        log.draftWord(word, lower ? -1 : 1, WORD_MOST);
        return log.appendDraft();
    }

    public int add(int a, int m, int b, int n) {
        return log.appendSum(a, m, b, n);
    }

    public int divide(int a, int d) {
        return log.appendQuotient(a, d);
    }

    public int split(int word, int k) {
        return isWord(word) ? log.openSplit(word, k) : NONE;
    }

    public int close(int line) {
        return log.closeBranch(line);
    }

    public int finish() {
        if (log.isWhole()) {
            return NONE;
        }
        // A closed case holds no solution, as each line holds for all solutions of its branch: so
        // every solution of the rows is in what is open.
        learn(FIRST_KNOWN);
        if (search.found() > 0) {
            return 0;
        }
        log.closeAll();
        return 1;
    }

    public int lines() {
        return log.lineCount();
    }

    public long line(int i, int what) {
        return log.hasLine(i) && what >= 0 && what < Log.CELLS ? log.lineCell(i, what) : Long.MIN_VALUE;
    }

    public int ofSplit(int k, int what) {
        return log.hasSplit(k) && what >= 0 && what < Log.SPLIT_CELLS ? log.splitCell(k, what) : Integer.MIN_VALUE;
    }

    public int count(int what) {
        switch (what) {
            case 0:
                return rows.size();
            case 1:
                return rows.layerCount();
            case 2:
                return log.isWhole() ? 1 : 0;
            case 3:
                return log.splitCount();
            case 4:
                return log.closings();
            default:
                return NONE;
        }
    }

    private static boolean isWord(int word) {
        return word >= 0 && word < WORDS;
    }

    private void startAnew() {
        log.makeEmpty();
        known = NOTHING_KNOWN;
    }

    private void learn(int wanted) {
        if (known >= wanted) {
            return;
        }
        search.look(wanted == FIRST_KNOWN);
        known = wanted;
    }

    /** The rows and where each layer begins among them. */
    private static final class Rows {
        static final int CELLS = 6;
        static final int MOST_ROWS = 16;
        private static final int MOST_LAYERS = 8;
        private static final int FACTOR_MOST = 99;
        private static final int LIMIT_MOST = 9999;
        private static final int KIND = 0;
        private static final int FACTORS = 1;
        private static final int LIMIT = 5;

        private final int[] cells;
        private final int[] layerStart;
        private int size;
        private int layers;

        Rows() {
            cells = new int[MOST_ROWS * CELLS];
            layerStart = new int[MOST_LAYERS];
            size = 0;
            layers = 0;
        }

        int append(int kind, int c0, int c1, int c2, int c3, int limit) {
            if (kind < 0 || kind > 1 || limit < -LIMIT_MOST || limit > LIMIT_MOST || size >= MOST_ROWS) {
                return NONE;
            }
            if (!isFactor(c0) || !isFactor(c1) || !isFactor(c2) || !isFactor(c3)) {
                return NONE;
            }
            int at = size * CELLS;
            cells[at + KIND] = kind;
            cells[at + FACTORS] = c0;
            cells[at + FACTORS + 1] = c1;
            cells[at + FACTORS + 2] = c2;
            cells[at + FACTORS + 3] = c3;
            cells[at + LIMIT] = limit;
            size++;
            return size - 1;
        }

        int beginLayer() {
            if (layers >= MOST_LAYERS) {
                return NONE;
            }
            layerStart[layers] = size;
            layers++;
            return layers;
        }

        int dropLayer() {
            if (layers <= 0) {
                return NONE;
            }
            layers--;
            int dropped = size - layerStart[layers];
            size = layerStart[layers];
            return dropped;
        }

        int size() {
            return size;
        }

        int layerCount() {
            return layers;
        }

        boolean has(int row) {
            return row >= 0 && row < size;
        }

        int cell(int row, int what) {
            return cells[row * CELLS + what];
        }

        boolean isEquality(int row) {
            return cells[row * CELLS + KIND] == 0;
        }

        int factor(int row, int word) {
            return cells[row * CELLS + FACTORS + word];
        }

        int limit(int row) {
            return cells[row * CELLS + LIMIT];
        }

        private static boolean isFactor(int c) {
            return c >= -FACTOR_MOST && c <= FACTOR_MOST;
        }
    }

    /** The lines and the open splits. A line is written as a draft first and comes whole or not at all. */
    private static final class Log {
        static final int CELLS = 5;
        static final int SPLIT_CELLS = 4;
        private static final int SPLIT_WORD = 0;
        private static final int SPLIT_AT = 1;
        private static final int SPLIT_CASE = 2;
        private static final int SPLIT_BEFORE = 3;
        private static final int LIMIT = 4;
        private static final int MOST_LINES = 200;
        private static final int MOST_SPLITS = 10;
        private static final int TIMES_MOST = 1000;
        private static final int DIVISOR_MOST = 1000000000;
        private static final long NUMBER_MOST = 1000000000L;
        private static final long LIMIT_MOST = 1000000000000L;

        private final long[] cells;
        private final int[] splitCells;
        private final long[] draft;
        private int lineCount;
        private int splitCount;
        private int closings;
        private boolean whole;

        Log() {
            cells = new long[MOST_LINES * CELLS];
            splitCells = new int[MOST_SPLITS * SPLIT_CELLS];
            draft = new long[CELLS];
            lineCount = 0;
            splitCount = 0;
            closings = 0;
            whole = false;
        }

        void makeEmpty() {
            lineCount = 0;
            splitCount = 0;
            closings = 0;
            whole = false;
        }

        int lineCount() {
            return lineCount;
        }

        int splitCount() {
            return splitCount;
        }

        int closings() {
            return closings;
        }

        boolean isWhole() {
            return whole;
        }

        boolean hasLine(int line) {
            return line >= 0 && line < lineCount;
        }

        long lineCell(int line, int what) {
            return cells[line * CELLS + what];
        }

        boolean hasSplit(int i) {
            return i >= 0 && i < splitCount;
        }

        int splitCell(int i, int what) {
            return splitCells[i * SPLIT_CELLS + what];
        }

        void draftNumber(int word, long number) {
            draft[word] = number;
        }

        void draftBound(long limit) {
            draft[LIMIT] = limit;
        }

        void draftWord(int word, int sign, int limit) {
            for (int w = 0; w < WORDS; w++) {
                draft[w] = w == word ? sign : 0;
            }
            draft[LIMIT] = limit;
        }

        int appendDraft() {
            if (whole || lineCount >= MOST_LINES) {
                return NONE;
            }
            for (int c = 0; c < CELLS; c++) {
                cells[lineCount * CELLS + c] = draft[c];
            }
            lineCount++;
            return lineCount - 1;
        }

        int appendSum(int a, int m, int b, int n) {
            if (!hasLine(a) || !hasLine(b) || m < 0 || m > TIMES_MOST || n < 0 || n > TIMES_MOST) {
                return NONE;
            }
            for (int c = 0; c < CELLS; c++) {
                draft[c] = m * lineCell(a, c) + n * lineCell(b, c);
            }
            return draftIsInRange() ? appendDraft() : NONE;
        }

        int appendQuotient(int a, int d) {
            if (!hasLine(a) || d < 1 || d > DIVISOR_MOST) {
                return NONE;
            }
            for (int w = 0; w < WORDS; w++) {
                long number = lineCell(a, w);
                if (number % d != 0) {
                    return NONE;
                }
                draft[w] = number / d;
            }
            draft[LIMIT] = Math.floorDiv(lineCell(a, LIMIT), (long) d);
            return appendDraft();
        }

        int openSplit(int word, int k) {
            if (k < -WORD_MOST - 1 || k > WORD_MOST || splitCount >= MOST_SPLITS) {
                return NONE;
            }
            draftWord(word, 1, k);
            int number = appendDraft();
            if (number == NONE) {
                return NONE;
            }
            int at = splitCount * SPLIT_CELLS;
            splitCells[at + SPLIT_WORD] = word;
            splitCells[at + SPLIT_AT] = k;
            splitCells[at + SPLIT_CASE] = 1;
            splitCells[at + SPLIT_BEFORE] = number;
            splitCount++;
            return number;
        }

        int closeBranch(int line) {
            if (whole || !hasLine(line) || !isContradiction(line)) {
                return NONE;
            }
            closings++;
            leaveBranch();
            return splitCount;
        }

        void closeAll() {
            if (splitCount > 0) {
                lineCount = splitCell(0, SPLIT_BEFORE);
            }
            splitCount = 0;
            whole = true;
        }

        /** A split closed in its case two closes the branch around it: so on, out to a case one. */
        private void leaveBranch() {
            for (int i = splitCount - 1; i >= 0; i--) {
                lineCount = splitCell(i, SPLIT_BEFORE);
                if (splitCell(i, SPLIT_CASE) == 1) {
                    splitCells[i * SPLIT_CELLS + SPLIT_CASE] = 2;
                    draftWord(splitCell(i, SPLIT_WORD), -1, -splitCell(i, SPLIT_AT) - 1);
                    appendDraft();
                    return;
                }
                splitCount = i;
            }
            whole = true;
        }

        private boolean isContradiction(int line) {
            for (int w = 0; w < WORDS; w++) {
                if (lineCell(line, w) != 0) {
                    return false;
                }
            }
            return lineCell(line, LIMIT) < 0;
        }

        private boolean draftIsInRange() {
            for (int w = 0; w < WORDS; w++) {
                if (draft[w] < -NUMBER_MOST || draft[w] > NUMBER_MOST) {
                    return false;
                }
            }
            return draft[LIMIT] >= -LIMIT_MOST && draft[LIMIT] <= LIMIT_MOST;
        }
    }

    /**
     * A search for solutions, word by word, the lesser values first. Each step is one that lines can
     * make: a row and the bounds of the later words are added and divided with rounding, which bounds
     * the next word; then its values are the cases.
     */
    private static final class Search {
        /** A row of kind 0 has two sides, it and it turned, so that a side is always "at most". */
        private static final int SIDES = 2 * Rows.MOST_ROWS;

        private final Rows rows;
        /** What belongs to word d and side s stands at d * SIDES + s, here and in the next two. */
        private final int[] factor;
        /** The words from d on make sums from -reach to reach. */
        private final int[] reach;
        /** The side's bound less the sum that the words before d make. */
        private final int[] left;
        /** From d * SIDES on, one behind the other: the sides that can still fail by the words from d on. */
        private final int[] pending;
        private final int[] pendingCount;
        private final int[] from;
        private final int[] to;
        private final int[] value;
        private final int[] firstFound;
        private final int[] leastFound;
        private final int[] greatestFound;
        private int sides;
        private int found;
        private boolean oneIsEnough;

        Search(Rows rows) {
            this.rows = rows;
            factor = new int[WORDS * SIDES];
            reach = new int[(WORDS + 1) * SIDES];
            left = new int[WORDS * SIDES];
            pending = new int[(WORDS + 1) * SIDES];
            pendingCount = new int[WORDS + 1];
            from = new int[WORDS];
            to = new int[WORDS];
            value = new int[WORDS];
            firstFound = new int[WORDS];
            leastFound = new int[WORDS];
            greatestFound = new int[WORDS];
            sides = 0;
            found = 0;
            oneIsEnough = false;
        }

        int found() {
            return found;
        }

        int firstValue(int word) {
            return firstFound[word];
        }

        int leastValue(int word) {
            return leastFound[word];
        }

        int greatestValue(int word) {
            return greatestFound[word];
        }

        void look(boolean oneIsEnough) {
            this.oneIsEnough = oneIsEnough;
            found = 0;
            sides = 0;
            int many = rows.size();
            for (int r = 0; r < many; r++) {
                takeSide(r, 1);
                if (rows.isEquality(r)) {
                    takeSide(r, -1);
                }
            }
            pendingCount[0] = sides;
            tryWord(0);
        }

        private void takeSide(int row, int sign) {
            if (sides >= SIDES) {
                return;
            }
            reach[WORDS * SIDES + sides] = 0;
            for (int w = WORDS - 1; w >= 0; w--) {
                int at = w * SIDES + sides;
                factor[at] = sign * rows.factor(row, w);
                reach[at] = reach[at + SIDES] + Math.abs(factor[at]) * WORD_MOST;
            }
            left[sides] = sign * rows.limit(row);
            pending[sides] = sides;
            sides++;
        }

        private void tryWord(int depth) {
            if (depth < 0 || depth >= WORDS) {
                return;
            }
            narrow(depth);
            if (from[depth] > to[depth]) {
                return;
            }
            // The last word's bounds are exact, and with no side pending every value will do.
            if (depth == WORDS - 1 || pendingCount[depth + 1] == 0) {
                noteSolutions(depth);
                return;
            }
            // Deeper levels write into the same array: the loop's own bound can't be moved by them.
            int last = to[depth];
            for (int v = from[depth]; v <= last && !isEnough(); v++) {
                setWord(depth, v);
                tryWord(depth + 1);
            }
        }

        private boolean isEnough() {
            return oneIsEnough && found > 0;
        }

        /** Bounds the word by the pending sides, and hands on those that can still fail. */
        private void narrow(int depth) {
            from[depth] = -WORD_MOST;
            to[depth] = WORD_MOST;
            int many = pendingCount[depth];
            int kept = 0;
            for (int p = 0; p < many && from[depth] <= to[depth]; p++) {
                int side = pending[depth * SIDES + p];
                int at = depth * SIDES + side;
                if (reach[at] > left[at]) {
                    keepAtMost(depth, factor[at], left[at] + reach[at + SIDES]);
                    pending[(depth + 1) * SIDES + kept] = side;
                    kept++;
                }
            }
            pendingCount[depth + 1] = kept;
        }

        /** Keeps the values of which c times the value is at most the bound. */
        private void keepAtMost(int depth, int c, int bound) {
            if (c > 0) {
                if (c * to[depth] > bound) {
                    to[depth] = Math.floorDiv(bound, c);
                }
            } else if (c < 0) {
                if (c * from[depth] > bound) {
                    from[depth] = -Math.floorDiv(bound, -c);
                }
            } else if (bound < 0) {
                to[depth] = -WORD_MOST - 1;
            }
        }

        private void setWord(int depth, int v) {
            value[depth] = v;
            int many = pendingCount[depth + 1];
            for (int p = 0; p < many; p++) {
                int at = depth * SIDES + pending[(depth + 1) * SIDES + p];
                left[at + SIDES] = left[at] - factor[at] * v;
            }
        }

        /** All values that are kept for the word at this depth, with all values of the later words. */
        private void noteSolutions(int depth) {
            int many = 1;
            for (int w = 0; w < WORDS; w++) {
                int least = w < depth ? value[w] : w == depth ? from[w] : -WORD_MOST;
                int greatest = w < depth ? value[w] : w == depth ? to[w] : WORD_MOST;
                many *= greatest - least + 1;
                if (found == 0) {
                    firstFound[w] = least;
                    leastFound[w] = least;
                    greatestFound[w] = greatest;
                } else {
                    leastFound[w] = Math.min(leastFound[w], least);
                    greatestFound[w] = Math.max(greatestFound[w], greatest);
                }
            }
            found += many;
        }
    }
}

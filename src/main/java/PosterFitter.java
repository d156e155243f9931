import java.util.Arrays;

/**
 * Fits the words of a poster into nested shapes: words have weights that give them sizes, with a
 * least size for each weight; lines are broken so that they fill the free width of the shapes best,
 * gaps between words must not form long chains, and the greatest size is found with which all fits.
 */
public final class PosterFitter {
    public static final int NONE = -1, BAD_INDEX = -2, BAD_VALUE = -3, BAD_STATE = -4, FULL = -5;

    private static final int COLUMNS = 48, ROWS = 36;
    private static final int MAX_SHAPES = 6, MAX_WORDS = 14, MAX_LETTERS = 12, MAX_WEIGHT = 3;
    private static final int MAX_BASE = 12, MAX_STEP = 4, MAX_SIZE = 20, MAX_LEADING = 5, MAX_LIMIT = 9;
    private static final int MAX_TEXT = 80, MAX_HISTORY = 4;

    /** How many numbers tell of each shape and word, and of a layout, its lines and its words. */
    private static final int SHAPE_PARTS = 5, WORD_PARTS = 3;
    private static final int LAYOUT_PARTS = 5, LINE_PARTS = 7, PLACED_PARTS = 5;

    /** The numbers that tell of a shape. */
    private static final int KIND = 0, X1 = 1, Y1 = 2, X2 = 3, Y2 = 4;

    /** The numbers that tell of a word, as for word(). */
    private static final int LETTERS = 0, WEIGHT = 1, MARK = 2;

    /** The settings, in the order of count(); the least size of the weight w is at LEAST + w. */
    private static final int STEP = 0, LEAST = 0, TOP = 4, LEADING = 5, ALIGNMENT = 6, LIMIT = 7;
    private static final int SETTINGS = 8, FIRST_SETTING_COUNTED = 2;

    private final State state = new State();
    private final State[] history = new State[MAX_HISTORY];
    private int recorded = 0;
    private final int[] text = new int[MAX_TEXT];
    private int textLength = 0;
    private final TextReader reader = new TextReader();
    private final Search search = new Search();

    public PosterFitter() {
        for (int i = 0; i < MAX_HISTORY; i++) {
            history[i] = new State();
        }
    }

    // ---- shapes

    public int addShape(int kind, int x1, int y1, int x2, int y2) {
        if (!isIn(kind, 0, 3) || !isBox(x1, y1, x2, y2)) {
            return BAD_VALUE;
        }
        if (state.canvas.shapeCount >= MAX_SHAPES) {
            return FULL;
        }
        remember();
        state.canvas.append(kind, x1, y1, x2, y2);
        return state.canvas.shapeCount - 1;
    }

    public int moveShape(int shape, int dx, int dy) {
        if (!isIn(shape, 0, state.canvas.shapeCount - 1)) {
            return BAD_INDEX;
        }
        if (!isIn(dx, 1 - COLUMNS, COLUMNS - 1) || !isIn(dy, 1 - ROWS, ROWS - 1)
                || !state.canvas.canShift(shape, dx, dy)) {
            return BAD_VALUE;
        }
        remember();
        state.canvas.shift(shape, dx, dy);
        return state.canvas.freeCells();
    }

    public int removeShape(int shape) {
        if (!isIn(shape, 0, state.canvas.shapeCount - 1)) {
            return BAD_INDEX;
        }
        remember();
        state.canvas.drop(shape);
        return state.canvas.shapeCount;
    }

    public int isFree(int x, int y) {
        if (!isIn(x, 0, COLUMNS - 1) || !isIn(y, 0, ROWS - 1)) {
            return BAD_VALUE;
        }
        return state.canvas.isFreeAt(x, y) ? 1 : 0;
    }

    public int span(int row, int rows, int what) {
        if (!isBand(row, rows) || !isIn(what, 0, 1)) {
            return BAD_VALUE;
        }
        search.bands.learn(state.canvas, rows);
        return what == 0 ? search.bands.lengthOf(row, rows) : search.bands.firstOf(row, rows);
    }

    // ---- words, settings

    public int addWord(int letters, int weight) {
        if (!isIn(letters, 1, MAX_LETTERS) || !isIn(weight, 1, MAX_WEIGHT)) {
            return BAD_VALUE;
        }
        if (state.wordCount >= MAX_WORDS) {
            return FULL;
        }
        remember();
        state.putWord(state.wordCount, letters, weight, 0);
        state.wordCount++;
        return state.wordCount - 1;
    }

    public int setWord(int word, int letters, int weight, boolean mark) {
        if (!isIn(word, 0, state.wordCount - 1)) {
            return BAD_INDEX;
        }
        if (!isIn(letters, 1, MAX_LETTERS) || !isIn(weight, 1, MAX_WEIGHT)) {
            return BAD_VALUE;
        }
        remember();
        int previous = state.partOfWord(word, LETTERS);
        state.putWord(word, letters, weight, mark ? 1 : 0);
        return previous;
    }

    public int clearWords() {
        remember();
        int previous = state.wordCount;
        state.wordCount = 0;
        return previous;
    }

    public int setSizes(int step, int least1, int least2, int least3) {
        if (!isIn(step, 0, MAX_STEP) || !isIn(least1, 1, MAX_SIZE)
                || !isIn(least2, 1, MAX_SIZE) || !isIn(least3, 1, MAX_SIZE)) {
            return BAD_VALUE;
        }
        remember();
        int previous = state.settings[STEP];
        state.settings[STEP] = step;
        state.settings[LEAST + 1] = least1;
        state.settings[LEAST + 2] = least2;
        state.settings[LEAST + 3] = least3;
        return previous;
    }

    public int setLines(int top, int leading, int alignment, int limit) {
        if (!isIn(top, 0, ROWS - 1) || !isIn(leading, 0, MAX_LEADING)
                || !isIn(alignment, 0, 2) || !isIn(limit, 1, MAX_LIMIT)) {
            return BAD_VALUE;
        }
        remember();
        int previous = state.settings[TOP];
        state.settings[TOP] = top;
        state.settings[LEADING] = leading;
        state.settings[ALIGNMENT] = alignment;
        state.settings[LIMIT] = limit;
        return previous;
    }

    public int count(int what) {
        if (isIn(what, FIRST_SETTING_COUNTED, FIRST_SETTING_COUNTED + SETTINGS - 1)) {
            return state.settings[what - FIRST_SETTING_COUNTED];
        }
        switch (what) {
            case 0: return state.canvas.shapeCount;
            case 1: return state.wordCount;
            case 10: return state.canvas.freeCells();
            case 11: return state.present != null ? 1 : 0;
            default: return BAD_VALUE;
        }
    }

    public int word(int word, int what) {
        if (!isIn(word, 0, state.wordCount - 1)) {
            return BAD_INDEX;
        }
        if (!isIn(what, 0, WORD_PARTS - 1)) {
            return BAD_VALUE;
        }
        return state.partOfWord(word, what);
    }

    // ---- fitting

    public int cost(int base) {
        if (!isIn(base, 1, MAX_BASE)) {
            return BAD_VALUE;
        }
        return search.findBest(state, base);
    }

    public int fit() {
        return greatestBase(state.settings[LIMIT]);
    }

    public int allowed(int base) {
        if (!isIn(base, 1, MAX_BASE)) {
            return BAD_VALUE;
        }
        return search.countLayouts(state, base);
    }

    public int take(int base) {
        if (!isIn(base, 0, MAX_BASE)) {
            return BAD_VALUE;
        }
        remember();
        int taken = base == 0 ? greatestBase(state.settings[LIMIT]) : base;
        int cost = taken == NONE ? NONE : search.findBest(state, taken);
        if (cost != NONE) {
            state.present = search.describeBest(taken);
        }
        return cost;
    }

    public int widestStep(int base) {
        if (!isIn(base, 1, MAX_BASE)) {
            return BAD_VALUE;
        }
        for (int step = MAX_STEP; step >= 0; step--) {
            if (search.hasLayout(state, base, step, state.settings[LIMIT])) {
                return step;
            }
        }
        return NONE;
    }

    public int tightestLimit() {
        int base = greatestBase(MAX_LIMIT);
        if (base == NONE) {
            return NONE;
        }
        // A tighter limit allows no layout that a looser one refuses, so that no greater base can
        // come up: the fit stays just if this base keeps a layout.
        for (int limit = 1; limit < MAX_LIMIT; limit++) {
            if (search.hasLayout(state, base, state.settings[STEP], limit)) {
                return limit;
            }
        }
        return MAX_LIMIT;
    }

    // ---- the present layout

    public int layout(int what) {
        if (!isIn(what, 0, LAYOUT_PARTS - 1)) {
            return BAD_VALUE;
        }
        if (state.present == null) {
            return BAD_STATE;
        }
        return state.present.totals[what];
    }

    public int line(int line, int what) {
        if (state.present == null) {
            return BAD_STATE;
        }
        if (!isIn(line, 0, state.present.lineCount - 1)) {
            return BAD_INDEX;
        }
        if (!isIn(what, 0, LINE_PARTS - 1)) {
            return BAD_VALUE;
        }
        return state.present.lines[line * LINE_PARTS + what];
    }

    public int placed(int word, int what) {
        if (state.present == null) {
            return BAD_STATE;
        }
        if (!isIn(word, 0, state.present.wordCount - 1)) {
            return BAD_INDEX;
        }
        if (!isIn(what, 0, PLACED_PARTS - 1)) {
            return BAD_VALUE;
        }
        return state.present.words[word * PLACED_PARTS + what];
    }

    // ---- text, history

    public int type(int code) {
        if (!isIn(code, 0, 255)) {
            return BAD_VALUE;
        }
        if (textLength >= MAX_TEXT) {
            return FULL;
        }
        text[textLength] = code;
        textLength++;
        return textLength;
    }

    public int clearText() {
        int previous = textLength;
        textLength = 0;
        return previous;
    }

    public int textFault() {
        return reader.read(text, textLength);
    }

    public int load() {
        if (reader.read(text, textLength) != NONE) {
            return BAD_STATE;
        }
        remember();
        state.wordCount = reader.wordCount;
        System.arraycopy(reader.words, 0, state.words, 0, state.words.length);
        return state.wordCount;
    }

    public int undo() {
        if (recorded <= 0) {
            return BAD_STATE;
        }
        recorded--;
        state.copyFrom(history[recorded]);
        return recorded;
    }

    public long digest() {
        long h = 23;
        for (int what = 0; what <= 11; what++) {
            h = 31 * h + count(what);
        }
        for (int row = 0; row < ROWS; row++) {
            h = 31 * h + span(row, 1, 0);
            h = 31 * h + span(row, 1, 1);
        }
        h = addAll(h, state.words, state.wordCount * WORD_PARTS);
        if (state.present != null) {
            h = addAll(h, state.present.totals, LAYOUT_PARTS);
            h = addAll(h, state.present.lines, state.present.lineCount * LINE_PARTS);
            h = addAll(h, state.present.words, state.present.wordCount * PLACED_PARTS);
        }
        return h;
    }

    // ---- helpers

    private static boolean isIn(int value, int least, int greatest) {
        return value >= least && value <= greatest;
    }

    private static boolean isBox(int x1, int y1, int x2, int y2) {
        return isIn(x1, 0, COLUMNS - 1) && isIn(y1, 0, ROWS - 1)
                && isIn(x2, x1, COLUMNS - 1) && isIn(y2, y1, ROWS - 1);
    }

    /** Whether these rows are on the canvas; the sum is not made of numbers that could overflow it. */
    private static boolean isBand(int row, int rows) {
        return isIn(row, 0, ROWS - 1) && isIn(rows, 1, ROWS) && row + rows <= ROWS;
    }

    private static long addAll(long hash, int[] values, int length) {
        long h = hash;
        for (int i = 0; i < length && i < values.length; i++) {
            h = 31 * h + values[i];
        }
        return h;
    }

    /** Records the state as it is now. */
    private void remember() {
        if (recorded >= MAX_HISTORY) {
            dropOldest();
        }
        history[recorded].copyFrom(state);
        recorded++;
    }

    /** The oldest state's object goes to the end, to be used again. */
    private void dropOldest() {
        State oldest = history[0];
        for (int i = 1; i < MAX_HISTORY; i++) {
            history[i - 1] = history[i];
        }
        history[MAX_HISTORY - 1] = oldest;
        recorded = MAX_HISTORY - 1;
    }

    /** The fit with a chain limit. */
    private int greatestBase(int limit) {
        for (int base = MAX_BASE; base >= 1; base--) {
            if (search.hasLayout(state, base, state.settings[STEP], limit)) {
                return base;
            }
        }
        return NONE;
    }

    /** All that the history keeps. A layout is never changed, so states can share it. */
    private static final class State {
        final Canvas canvas = new Canvas();
        int wordCount = 0;
        final int[] words = new int[MAX_WORDS * WORD_PARTS];
        final int[] settings = new int[SETTINGS];
        Layout present = null;

        State() {
            Arrays.fill(settings, 1);
            settings[TOP] = 0;
            settings[LIMIT] = MAX_LIMIT;
        }

        void copyFrom(State other) {
            canvas.copyFrom(other.canvas);
            wordCount = other.wordCount;
            System.arraycopy(other.words, 0, words, 0, words.length);
            System.arraycopy(other.settings, 0, settings, 0, settings.length);
            present = other.present;
        }

        int partOfWord(int word, int part) {
            return words[word * WORD_PARTS + part];
        }

        void putWord(int word, int letters, int weight, int mark) {
            words[word * WORD_PARTS + LETTERS] = letters;
            words[word * WORD_PARTS + WEIGHT] = weight;
            words[word * WORD_PARTS + MARK] = mark;
        }
    }

    /** The shapes, and the free cells, a bit for each column of a row. */
    private static final class Canvas {
        int shapeCount = 0;
        /** Grows whenever free cells may have changed, so that what is known of them can be dropped. */
        int changes = 1;
        private final int[] shapes = new int[MAX_SHAPES * SHAPE_PARTS];
        private final long[] free = new long[ROWS];

        void copyFrom(Canvas other) {
            shapeCount = other.shapeCount;
            System.arraycopy(other.shapes, 0, shapes, 0, shapes.length);
            System.arraycopy(other.free, 0, free, 0, free.length);
            changes++;
        }

        void append(int kind, int x1, int y1, int x2, int y2) {
            int at = shapeCount * SHAPE_PARTS;
            shapes[at + KIND] = kind;
            shapes[at + X1] = x1;
            shapes[at + Y1] = y1;
            shapes[at + X2] = x2;
            shapes[at + Y2] = y2;
            shapeCount++;
            toggle(at);
        }

        boolean canShift(int shape, int dx, int dy) {
            int at = shape * SHAPE_PARTS;
            return isBox(shapes[at + X1] + dx, shapes[at + Y1] + dy,
                    shapes[at + X2] + dx, shapes[at + Y2] + dy);
        }

        void shift(int shape, int dx, int dy) {
            int at = shape * SHAPE_PARTS;
            toggle(at);
            shapes[at + X1] += dx;
            shapes[at + Y1] += dy;
            shapes[at + X2] += dx;
            shapes[at + Y2] += dy;
            toggle(at);
        }

        void drop(int shape) {
            int at = shape * SHAPE_PARTS;
            toggle(at);
            shapeCount--;
            System.arraycopy(shapes, at + SHAPE_PARTS, shapes, at, shapeCount * SHAPE_PARTS - at);
        }

        boolean isFreeAt(int x, int y) {
            return (free[y] >> x & 1) != 0;
        }

        int freeCells() {
            int cells = 0;
            for (int y = 0; y < ROWS; y++) {
                cells += Long.bitCount(free[y]);
            }
            return cells;
        }

        /** The columns, a bit each, that are free in all rows of the band. */
        long freeColumns(int row, int rows) {
            long columns = free[row];
            for (int y = row + 1; y < row + rows; y++) {
                columns &= free[y];
            }
            return columns;
        }

        /** One shape more or less over a cell turns free to not free, and back. */
        private void toggle(int at) {
            for (int y = shapes[at + Y1]; y <= shapes[at + Y2]; y++) {
                free[y] ^= columnsOf(at, y);
            }
            changes++;
        }

        private long columnsOf(int at, int y) {
            int x1 = shapes[at + X1];
            int x2 = shapes[at + X2];
            int y1 = shapes[at + Y1];
            int y2 = shapes[at + Y2];
            long columns = 0;
            for (int x = x1; x <= x2; x++) {
                int u = Math.abs(2 * x - x1 - x2);
                int v = Math.abs(2 * y - y1 - y2);
                if (belongs(shapes[at + KIND], u, v, x2 - x1 + 1, y2 - y1 + 1, y - y1 + 1)) {
                    columns |= 1L << x;
                }
            }
            return columns;
        }

        /** The document's rules for a cell of the box; depth is the row's number in it, from 1. */
        private static boolean belongs(int kind, int u, int v, int a, int b, int depth) {
            switch (kind) {
                case 1: return u * b + v * a <= a * b;
                case 2: return u * u * b * b + v * v * a * a <= a * a * b * b;
                case 3: return u * b <= a * depth;
                default: return true;
            }
        }
    }

    /** The spans of the bands of one canvas. They are looked for once as long as it stays as it is. */
    private static final class Bands {
        private final int[] lengths = new int[ROWS * ROWS];
        private final int[] firsts = new int[ROWS * ROWS];
        /** For each number of rows, up to which change of the canvas the spans are known; 0 at first. */
        private final int[] changesKnown = new int[ROWS + 1];

        /** Finds the spans of all bands with so many rows, 1 to 36; must be called before they are asked for. */
        void learn(Canvas canvas, int rows) {
            if (changesKnown[rows] == canvas.changes) {
                return;
            }
            for (int row = 0; row + rows <= ROWS; row++) {
                findSpan(row * ROWS + rows - 1, canvas.freeColumns(row, rows));
            }
            changesKnown[rows] = canvas.changes;
        }

        /** The length of the span of a band of the canvas. */
        int lengthOf(int row, int rows) {
            return lengths[row * ROWS + rows - 1];
        }

        /** The first column of the span of a band of the canvas, or NONE. */
        int firstOf(int row, int rows) {
            return firsts[row * ROWS + rows - 1];
        }

        private void findSpan(int band, long columns) {
            int longest = 0;
            int first = NONE;
            int length = 0;
            for (int x = 0; x < COLUMNS; x++) {
                length = (columns >> x & 1) != 0 ? length + 1 : 0;
                if (length > longest) {
                    longest = length;
                    first = x - length + 1;
                }
            }
            lengths[band] = longest;
            firsts[band] = first;
        }
    }

    /** The sizes of the words, and of the lines that can be made of them, for a base and a step. */
    private static final class Measures {
        int wordCount = 0;
        final int[] sizes = new int[MAX_WORDS];
        final int[] widths = new int[MAX_WORDS];
        /** The gap before each word, if it isn't the first one of its line. */
        final int[] gaps = new int[MAX_WORDS];
        /** For each word, where a line that begins with it must end because of a mark. */
        final int[] lastEnds = new int[MAX_WORDS];
        private final int[] lineWidths = new int[MAX_WORDS * MAX_WORDS];
        private final int[] lineHeights = new int[MAX_WORDS * MAX_WORDS];

        /** Returns whether there are words, and none is too small for its weight. */
        boolean measure(State state, int base, int step) {
            wordCount = state.wordCount;
            for (int i = 0; i < wordCount; i++) {
                int weight = state.partOfWord(i, WEIGHT);
                sizes[i] = base + (weight - 1) * step;
                if (sizes[i] < state.settings[LEAST + weight]) {
                    return false;
                }
                widths[i] = state.partOfWord(i, LETTERS) * sizes[i];
                gaps[i] = i == 0 ? 0 : Math.min(sizes[i - 1], sizes[i]);
            }
            findLastEnds(state);
            measureLines();
            return wordCount > 0;
        }

        /** The width of the line of the words from first on, up to the one before end. */
        int widthOf(int first, int end) {
            return lineWidths[first * MAX_WORDS + end - 1];
        }

        int heightOf(int first, int end) {
            return lineHeights[first * MAX_WORDS + end - 1];
        }

        private void findLastEnds(State state) {
            int end = wordCount;
            for (int i = wordCount - 1; i >= 0; i--) {
                lastEnds[i] = end;
                if (state.partOfWord(i, MARK) != 0) {
                    end = i;
                }
            }
        }

        private void measureLines() {
            for (int first = 0; first < wordCount; first++) {
                int width = widths[first];
                int height = sizes[first];
                for (int last = first; last < wordCount; last++) {
                    if (last > first) {
                        width += gaps[last] + widths[last];
                        height = Math.max(height, sizes[last]);
                    }
                    lineWidths[first * MAX_WORDS + last] = width;
                    lineHeights[first * MAX_WORDS + last] = height;
                }
            }
        }
    }

    /** Tries the layouts for a base in the lexicographic order of the numbers of words of their lines. */
    private static final class Search {
        final Bands bands = new Bands();
        private final Measures measures = new Measures();
        private int top, leading, alignment, limit;
        /** For each word and row, the least cost of the lines from there on if chains did not matter. */
        private final int[] leastCosts = new int[MAX_WORDS * ROWS];

        /** The layout that is tried: its lines' first words, and behind the last line its end. */
        private final int[] firsts = new int[MAX_WORDS + 1];
        /** Where each word begins, and the gap before it, if it isn't the first one of its line. */
        private final int[] columns = new int[MAX_WORDS];
        private final int[] gapColumns = new int[MAX_WORDS];
        /** For each word, the length of the longest chain that ends, or begins, with the gap before it. */
        private final int[] chainsAbove = new int[MAX_WORDS];
        private final int[] chainsBelow = new int[MAX_WORDS];

        private int found, wanted;
        private boolean onlyCheaper;
        private final int[] bestFirsts = new int[MAX_WORDS + 1];
        private int bestLines, bestCost;

        boolean hasLayout(State state, int base, int step, int chainLimit) {
            if (!prepare(state, base, step, chainLimit)) {
                return false;
            }
            run(1, false);
            return found > 0;
        }

        int countLayouts(State state, int base) {
            if (!prepare(state, base, state.settings[STEP], state.settings[LIMIT])) {
                return 0;
            }
            run(Integer.MAX_VALUE, false);
            return found;
        }

        /** Returns the cost of the best layout, or NONE. */
        int findBest(State state, int base) {
            if (!prepare(state, base, state.settings[STEP], state.settings[LIMIT])) {
                return NONE;
            }
            run(Integer.MAX_VALUE, true);
            return found > 0 ? bestCost : NONE;
        }

        /** Returns whether there is anything to search: words, and none too small for its weight. */
        private boolean prepare(State state, int base, int step, int chainLimit) {
            if (!measures.measure(state, base, step)) {
                return false;
            }
            top = state.settings[TOP];
            leading = state.settings[LEADING];
            alignment = state.settings[ALIGNMENT];
            limit = chainLimit;
            for (int i = 0; i < measures.wordCount; i++) {
                bands.learn(state.canvas, measures.sizes[i]);
            }
            findLeastCosts();
            return true;
        }

        private void run(int layoutsWanted, boolean cheaper) {
            found = 0;
            wanted = layoutsWanted;
            onlyCheaper = cheaper;
            firsts[0] = 0;
            if (leastCostFrom(0, top) != NONE) {
                layFrom(0, top, 0);
            }
        }

        private void findLeastCosts() {
            for (int word = measures.wordCount - 1; word >= 0; word--) {
                for (int row = top; row < ROWS; row++) {
                    leastCosts[word * ROWS + row] = findLeastCost(word, row);
                }
            }
        }

        /** Those of the words behind this one must be known. */
        private int findLeastCost(int word, int row) {
            int least = NONE;
            for (int end = word + 1; end <= measures.lastEnds[word]; end++) {
                int slack = slackOf(word, end, row);
                if (slack == NONE) {
                    break;
                }
                int rest = leastCostFrom(end, rowBehind(word, end, row));
                int cost = slack * slack + rest;
                if (rest != NONE && (least == NONE || cost < least)) {
                    least = cost;
                }
            }
            return least;
        }

        /** NONE if the words from this one on can't be laid from this row on. */
        private int leastCostFrom(int word, int row) {
            if (word >= measures.wordCount) {
                return 0;
            }
            return row < ROWS ? leastCosts[word * ROWS + row] : NONE;
        }

        private int rowBehind(int first, int end, int row) {
            return row + measures.heightOf(first, end) + leading;
        }

        /**
         * The slack of a line, or NONE if it has no room. Then a longer line from the same word on
         * has none either: it is wider, and not less high, so that its span is not longer.
         */
        private int slackOf(int first, int end, int row) {
            int height = measures.heightOf(first, end);
            if (row + height > ROWS) {
                return NONE;
            }
            int slack = bands.lengthOf(row, height) - measures.widthOf(first, end);
            return slack >= 0 ? slack : NONE;
        }

        /** Lays the words from the line's first one on in all ways, behind lines of this cost. */
        private void layFrom(int line, int row, int cost) {
            int first = firsts[line];
            if (first >= measures.wordCount) {
                keep(line, cost);
                return;
            }
            if (line >= MAX_WORDS) {
                return;
            }
            for (int end = first + 1; end <= measures.lastEnds[first] && found < wanted; end++) {
                int slack = slackOf(first, end, row);
                if (slack == NONE) {
                    break;
                }
                firsts[line + 1] = end;
                tryLine(line, row, slack, cost + slack * slack);
            }
        }

        private void tryLine(int line, int row, int slack, int cost) {
            int first = firsts[line];
            int end = firsts[line + 1];
            int nextRow = rowBehind(first, end, row);
            int rest = leastCostFrom(end, nextRow);
            // Of layouts with the same cost the first one tried is the best one.
            if (rest == NONE || onlyCheaper && found > 0 && cost + rest >= bestCost) {
                return;
            }
            placeWords(first, end, row, slack);
            if (chainFromAbove(line) <= limit) {
                layFrom(line + 1, nextRow, cost);
            }
        }

        private void keep(int lines, int cost) {
            found++;
            if (onlyCheaper) {
                bestCost = cost;
                bestLines = lines;
                System.arraycopy(firsts, 0, bestFirsts, 0, firsts.length);
            }
        }

        private void placeWords(int first, int end, int row, int slack) {
            int indent = alignment == 0 ? 0 : alignment == 1 ? slack / 2 : slack;
            columns[first] = bands.firstOf(row, measures.heightOf(first, end)) + indent;
            for (int i = first + 1; i < end; i++) {
                gapColumns[i] = columns[i - 1] + measures.widths[i - 1];
                columns[i] = gapColumns[i] + measures.gaps[i];
            }
        }

        /** Finds the chains that end in a line, and returns the length of the longest one. */
        private int chainFromAbove(int line) {
            int first = firsts[line];
            int firstAbove = line > 0 ? firsts[line - 1] : first;
            int longest = 0;
            for (int i = first + 1; i < firsts[line + 1]; i++) {
                chainsAbove[i] = 1 + longestTouching(i, firstAbove, first, chainsAbove);
                longest = Math.max(longest, chainsAbove[i]);
            }
            return longest;
        }

        /** Finds the chains that begin in a line, of so many lines. */
        private void chainFromBelow(int line, int lines) {
            int end = firsts[line + 1];
            int endBelow = line + 1 < lines ? firsts[line + 2] : end;
            for (int i = firsts[line] + 1; i < end; i++) {
                chainsBelow[i] = 1 + longestTouching(i, end, endBelow, chainsBelow);
            }
        }

        /** The greatest of the chains at those gaps of a line that touch the gap before a word, or 0. */
        private int longestTouching(int word, int first, int end, int[] chains) {
            int longest = 0;
            for (int i = first + 1; i < end; i++) {
                if (gapColumns[i] < columns[word] && gapColumns[word] < columns[i] && chains[i] > longest) {
                    longest = chains[i];
                }
            }
            return longest;
        }

        /** Tells all of the best layout, which must just have been found. */
        Layout describeBest(int base) {
            Layout layout = new Layout(bestLines, measures.wordCount);
            System.arraycopy(bestFirsts, 0, firsts, 0, firsts.length);
            int row = top;
            int longest = 0;
            for (int line = 0; line < bestLines; line++) {
                describeLine(layout, line, row);
                longest = Math.max(longest, chainFromAbove(line));
                row = rowBehind(firsts[line], firsts[line + 1], row);
            }
            for (int line = bestLines - 1; line >= 0; line--) {
                chainFromBelow(line, bestLines);
                describeWords(layout, line);
            }
            layout.putTotals(base, bestCost, longest, row - leading);
            return layout;
        }

        private void describeLine(Layout layout, int line, int row) {
            int first = firsts[line];
            int end = firsts[line + 1];
            int height = measures.heightOf(first, end);
            int slack = slackOf(first, end, row);
            placeWords(first, end, row, slack);
            int at = line * LINE_PARTS;
            layout.lines[at] = first;
            layout.lines[at + 1] = end - first;
            layout.lines[at + 2] = row;
            layout.lines[at + 3] = height;
            layout.lines[at + 4] = measures.widthOf(first, end);
            layout.lines[at + 5] = bands.firstOf(row, height);
            layout.lines[at + 6] = slack;
        }

        private void describeWords(Layout layout, int line) {
            for (int i = firsts[line]; i < firsts[line + 1]; i++) {
                int at = i * PLACED_PARTS;
                layout.words[at] = columns[i];
                layout.words[at + 1] = measures.widths[i];
                layout.words[at + 2] = measures.sizes[i];
                layout.words[at + 3] = line;
                layout.words[at + 4] = i > firsts[line] ? chainsAbove[i] + chainsBelow[i] - 1 : 0;
            }
        }
    }

    /** All that layout(), line() and placed() tell of a layout, in the order of their "what". */
    private static final class Layout {
        final int lineCount;
        final int wordCount;
        final int[] totals = new int[LAYOUT_PARTS];
        /** A line has a word at least, so that there are never more lines than words. */
        final int[] lines = new int[MAX_WORDS * LINE_PARTS];
        final int[] words = new int[MAX_WORDS * PLACED_PARTS];

        Layout(int lineCount, int wordCount) {
            this.lineCount = lineCount;
            this.wordCount = wordCount;
        }

        void putTotals(int base, int cost, int longestChain, int rowBelow) {
            totals[0] = base;
            totals[1] = lineCount;
            totals[2] = cost;
            totals[3] = longestChain;
            totals[4] = rowBelow;
        }
    }

    /** Reads the words of a text. */
    private static final class TextReader {
        /** What stands before a byte: nothing, letters or exclamation marks, or what is between words. */
        private static final int AT_BEGIN = 0, IN_LETTERS = 1, IN_SHOUTS = 2, BEHIND_WORD = 3, BEHIND_SLASH = 4;

        int wordCount = 0;
        final int[] words = new int[MAX_WORDS * WORD_PARTS];
        private int place = AT_BEGIN;

        /** Returns the fault, or NONE; then the words are those of the text. */
        int read(int[] text, int length) {
            wordCount = 0;
            place = AT_BEGIN;
            for (int i = 0; i < length && i < text.length; i++) {
                if (!accepts(text[i])) {
                    return i;
                }
            }
            return place == BEHIND_SLASH ? length : NONE;
        }

        private boolean accepts(int code) {
            if (isLetter(code)) {
                return place == IN_LETTERS ? addLetter() : place != IN_SHOUTS && beginWord();
            }
            switch (code) {
                case '!': return (place == IN_LETTERS || place == IN_SHOUTS) && addShout();
                case '/': return place != AT_BEGIN && place != BEHIND_SLASH && goTo(BEHIND_SLASH);
                case ' ': return goTo(place == IN_LETTERS || place == IN_SHOUTS ? BEHIND_WORD : place);
                default: return false;
            }
        }

        private static boolean isLetter(int code) {
            return isIn(code, 'A', 'Z') || isIn(code, 'a', 'z');
        }

        private boolean goTo(int nextPlace) {
            place = nextPlace;
            return true;
        }

        private boolean beginWord() {
            if (wordCount >= MAX_WORDS) {
                return false;
            }
            int at = wordCount * WORD_PARTS;
            words[at + LETTERS] = 1;
            words[at + WEIGHT] = 1;
            words[at + MARK] = place == BEHIND_SLASH ? 1 : 0;
            wordCount++;
            return goTo(IN_LETTERS);
        }

        private boolean addLetter() {
            return addUpTo(MAX_LETTERS, LETTERS) && goTo(IN_LETTERS);
        }

        private boolean addShout() {
            return addUpTo(MAX_WEIGHT, WEIGHT) && goTo(IN_SHOUTS);
        }

        /** Adds 1 to a number of the last word, unless it is the greatest already. */
        private boolean addUpTo(int greatest, int part) {
            int at = (wordCount - 1) * WORD_PARTS + part;
            if (at < 0 || words[at] >= greatest) {
                return false;
            }
            words[at]++;
            return true;
        }
    }
}

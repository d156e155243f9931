/** Promises 14 to 19: cost, fit, allowed, take, widestStep, tightestLimit. */
public final class FittingTest {
    private static final int MIN = Integer.MIN_VALUE, MAX = Integer.MAX_VALUE;

    public static void main(String[] args) {
        wrongBases();
        slacks();
        ties();
        marks();
        leading();
        fourteenLines();
        heights();
        leastSizes();
        chains();
        alignments();
        fit();
        take();
        widestStep();
        tightestLimit();
        Check.end();
    }

    private static void wrongBases() {
        PosterFitter x = Check.poster(10, 10);
        Check.words(x, 2);
        for (int base : new int[] {-1, 13, MIN, MAX, 0}) {
            Check.due("cost(" + base + ")", x.cost(base), -3);
            Check.due("allowed(" + base + ")", x.allowed(base), -3);
            Check.due("widestStep(" + base + ")", x.widestStep(base), -3);
            if (base != 0) {
                Check.due("take(" + base + ")", x.take(base), -3);
            }
        }
        Check.due("a bad take is not recorded", x.undo(), 2);
    }

    /** The lines of the best layout for a base, by their numbers of words, as digits. */
    private static void best(String what, PosterFitter x, int base, int cost, long lines) {
        Check.due(what + ": cost(" + base + ")", x.cost(base), cost);
        Check.due(what + ": take(" + base + ")", x.take(base), cost);
        long digits = 0;
        for (int i = 0; i < x.layout(1); i++) {
            digits = 10 * digits + x.line(i, 1);
        }
        Check.due(what + ": lines", digits, lines);
        x.undo();
    }

    private static void slacks() {
        PosterFitter x = Check.poster(10, 36);
        Check.due("cost(1) without words", x.cost(1), -1);
        Check.due("allowed(1) without words", x.allowed(1), 0);
        Check.words(x, 10);
        best("full", x, 1, 0, 1);
        Check.due("too wide", x.cost(2), -1);
        Check.due("too wide", x.allowed(2), 0);
        x.setWord(0, 3, 1, false);
        best("slack 7", x, 1, 49, 1);
        best("slack 4", x, 2, 16, 1);
        best("slack 1", x, 3, 1, 1);
        Check.due("too wide", x.cost(4), -1);
        Check.words(x, 3);
        best("two words", x, 1, 9, 2);
        Check.due("allowed(1)", x.allowed(1), 2);
        Check.words(x, 2);
        best("two gaps and no slack", x, 1, 0, 3);
        Check.due("allowed(1)", x.allowed(1), 4);
        x.setWord(2, 3, 1, false);
        best("the gaps count too", x, 1, 49 + 9, 12);
    }

    private static void ties() {
        PosterFitter x = Check.poster(10, 36);
        Check.words(x, 3, 3, 3);
        best("of two the first", x, 1, 58, 12);
        Check.due("allowed(1)", x.allowed(1), 3);
        Check.words(x, 3, 3);
        best("of three the first", x, 1, 67, 122);
    }

    private static void marks() {
        PosterFitter x = Check.poster(20, 36);
        Check.words(x, 2, 2, 2, 2);
        best("no mark", x, 1, 81, 4);
        Check.due("allowed(1)", x.allowed(1), 8);
        x.setWord(0, 2, 1, true);
        best("a mark of word 0 does not matter", x, 1, 81, 4);
        Check.due("allowed(1)", x.allowed(1), 8);
        x.setWord(2, 2, 1, true);
        best("a mark", x, 1, 2 * 225, 22);
        Check.due("allowed(1)", x.allowed(1), 4);
        x.setWord(1, 2, 1, true);
        best("two marks", x, 1, 2 * 324 + 225, 112);
        Check.due("allowed(1)", x.allowed(1), 2);
        x.setWord(3, 2, 1, true);
        best("all marks", x, 1, 4 * 324, 1111);
    }

    private static void leading() {
        PosterFitter x = Check.poster(3, 6);
        Check.words(x, 3, 3, 3);
        best("leading 0", x, 1, 0, 111);
        x.setLines(0, 1, 0, 9);
        best("leading 1", x, 1, 0, 111);
        x.setLines(0, 2, 0, 9);
        Check.due("leading 2", x.cost(1), -1);
        x.setLines(3, 0, 0, 9);
        best("top 3", x, 1, 0, 111);
        x.setLines(4, 0, 0, 9);
        Check.due("top 4", x.cost(1), -1);
        PosterFitter low = new PosterFitter();
        low.addShape(0, 0, 0, 47, 35);
        low.setLines(35, 5, 0, 9);
        Check.words(low, 12, 12);
        best("the last row", low, 1, 23 * 23, 2);
        Check.due("only the last row", low.cost(2), -1);
        low.setWord(1, 12, 1, true);
        Check.due("no row below", low.cost(1), -1);
    }

    private static void fourteenLines() {
        PosterFitter x = Check.poster(3, 36);
        Check.words(x, 3, 3, 3, 3, 3, 3, 3, 3, 3, 3, 3, 3, 3, 2);
        best("fourteen lines", x, 1, 1, 11111111111111L);
        x.setLines(22, 0, 0, 9);
        best("down to the last row", x, 1, 1, 11111111111111L);
        Check.due("allowed(1)", x.allowed(1), 1);
        x.setLines(23, 0, 0, 9);
        Check.due("the last line is below the canvas", x.cost(1), -1);
        Check.due("the last line is below the canvas", x.allowed(1), 0);
        Check.due("the last line is below the canvas", x.fit(), -1);
        x.setWord(13, 1, 1, false);
        x.setWord(12, 1, 1, false);
        best("two words in the last row", x, 1, 0, 1111111111112L);
    }

    private static void heights() {
        PosterFitter x = Check.poster(30, 5);
        x.setSizes(2, 1, 1, 1);
        x.addWord(2, 1);
        x.addWord(2, 2);
        x.addWord(2, 3);
        // sizes 1, 3, 5: widths 2, 6, 10, gaps 1 and 3
        best("one line of height 5", x, 1, 8 * 8, 3);
        Check.due("nothing else fits", x.allowed(1), 1);
        x.addShape(0, 20, 4, 29, 4);
        Check.due("the span is that of all rows", x.cost(1), -1);
        x.moveShape(1, 0, 1);
        best("a row below the line", x, 1, 64, 3);
    }

    private static void leastSizes() {
        PosterFitter x = Check.poster(12, 12);
        x.addWord(1, 2);
        x.setSizes(1, 20, 6, 20);
        Check.due("size 5 of 6", x.cost(4), -1);
        Check.due("size 5 of 6", x.allowed(4), 0);
        Check.due("size 6 of 6", x.cost(5), 36);
        Check.due("size 6 of 6", x.allowed(5), 1);
        x.addWord(1, 1);
        Check.due("a word of weight 1", x.cost(5), -1);
        x.setSizes(1, 5, 6, 20);
        Check.due("sizes 6 and 5, gap 5", x.cost(5), 36 + 49);
        x.setSizes(1, 5, 7, 20);
        Check.due("one is too small", x.allowed(5), 0);
    }

    private static void chains() {
        PosterFitter x = Check.poster(3, 36);
        Check.words(x, 1, 1, 1, 1);
        Check.due("allowed(1), limit 9", x.allowed(1), 5);
        best("limit 9", x, 1, 0, 22);
        x.setLines(0, 0, 0, 2);
        Check.due("allowed(1), limit 2", x.allowed(1), 5);
        x.setLines(0, 0, 0, 1);
        Check.due("allowed(1), limit 1", x.allowed(1), 4);
        best("limit 1", x, 1, 8, 112);
        Check.words(x, 1, 1);
        x.setLines(0, 0, 0, 2);
        Check.due("six words, limit 2", x.allowed(1), 12);
        best("six words, limit 2", x, 1, 8, 1122);
        x.setLines(0, 5, 0, 1);
        Check.due("rows between do not matter", x.allowed(1), 9);
        best("rows between do not matter", x, 1, 8, 1212);
    }

    private static void alignments() {
        // Lines "aa a" and "a a": gaps at columns 2 and 1 on the left side, both at 1 from the right side.
        PosterFitter x = Check.poster(4, 2);
        Check.words(x, 2, 1, 1, 1);
        x.setLines(0, 0, 0, 1);
        Check.due("left", x.cost(1), 1);
        x.setLines(0, 0, 1, 1);
        Check.due("middle, rounded to the left", x.cost(1), 1);
        x.setLines(0, 0, 2, 1);
        Check.due("right", x.cost(1), -1);
        x.setLines(0, 0, 2, 2);
        Check.due("right, limit 2", x.cost(1), 1);
    }

    private static void fit() {
        PosterFitter x = Check.poster(48, 36);
        Check.due("fit() without words", x.fit(), -1);
        Check.words(x, 1);
        Check.due("fit() is at most 12", x.fit(), 12);
        x.setWord(0, 12, 1, false);
        Check.due("fit()", x.fit(), 4);
        x.setSizes(1, 4, 1, 1);
        Check.due("fit() at the least size", x.fit(), 4);
        x.setSizes(1, 5, 1, 1);
        Check.due("fit() below the least size", x.fit(), -1);
        x.setSizes(1, 1, 1, 1);
        x.setLines(33, 0, 0, 9);
        Check.due("fit() by rows", x.fit(), 3);
        x.removeShape(0);
        Check.due("fit() without shapes", x.fit(), -1);
        PosterFitter y = Check.poster(3, 2);
        Check.words(y, 1, 1, 1, 1);
        Check.due("fit(), limit 9", y.fit(), 1);
        y.setLines(0, 0, 0, 1);
        Check.due("fit(), limit 1", y.fit(), -1);
        PosterFitter z = Check.poster(9, 9);
        Check.words(z, 1, 1);
        z.setSizes(1, 3, 1, 1);
        Check.due("no layout for base 2", z.cost(2), -1);
        Check.due("fit() above bases without a layout", z.fit(), 4);
    }

    private static void take() {
        PosterFitter x = Check.poster(10, 36);
        Check.due("take(0) without words", x.take(0), -1);
        Check.due("take(1) without words", x.take(1), -1);
        Check.due("take is recorded, also if it is NONE", x.undo(), 3);
        x.undo();
        Check.words(x, 3, 3, 3);
        Check.due("take(0)", x.take(0), 3);
        Check.due("its base", x.layout(0), 3);
        Check.due("take(2)", x.take(2), 48);
        Check.due("its base", x.layout(0), 2);
        Check.due("take(4)", x.take(4), -1);
        Check.due("the layout before stays", x.layout(0), 2);
        Check.due("take is recorded", x.undo(), 3);
        Check.due("the layout before stays", x.layout(0), 2);
        x.undo();
        Check.due("take(2) undone", x.layout(0), 3);
        x.undo();
        Check.due("take(0) undone", x.layout(0), -4);
        x.removeShape(0);
        Check.due("take(0) without a fit", x.take(0), -1);
        Check.due("no layout", x.count(11), 0);
    }

    private static void widestStep() {
        PosterFitter x = Check.poster(6, 36);
        x.addWord(1, 3);
        Check.due("size 5 of 6", x.widestStep(1), 2);
        Check.due("size 6 of 6", x.widestStep(2), 2);
        Check.due("size 5 of 6", x.widestStep(3), 1);
        Check.due("size 6 of 6", x.widestStep(6), 0);
        Check.due("too wide", x.widestStep(7), -1);
        x.setSizes(0, 1, 1, 5);
        Check.due("least size 5", x.widestStep(1), 2);
        x.setSizes(0, 1, 1, 7);
        Check.due("least size 7", x.widestStep(1), -1);
        Check.due("the step stays", x.count(2), 0);
        x.setSizes(3, 1, 1, 1);
        Check.due("whatever the step is", x.widestStep(1), 2);
        x.setWord(0, 1, 1, false);
        Check.due("weight 1", x.widestStep(6), 4);
        Check.due("nothing is recorded", x.undo(), 3);
        PosterFitter y = Check.poster(3, 2);
        Check.words(y, 1, 1, 1, 1);
        y.setLines(0, 0, 0, 1);
        Check.due("the limit holds", y.widestStep(1), -1);
        y.setLines(0, 0, 0, 2);
        Check.due("the limit holds", y.widestStep(1), 4);
    }

    private static void tightestLimit() {
        PosterFitter x = Check.poster(3, 2);
        Check.due("tightestLimit() without words", x.tightestLimit(), -1);
        Check.words(x, 1, 1);
        Check.due("two words", x.tightestLimit(), 1);
        Check.words(x, 1, 1);
        Check.due("two lines of two", x.tightestLimit(), 2);
        x.setLines(0, 0, 0, 1);
        Check.due("whatever the limit is", x.tightestLimit(), 2);
        Check.due("the limit stays", x.count(9), 1);
        Check.words(x, 1);
        Check.due("no fit", x.tightestLimit(), -1);
        PosterFitter high = Check.poster(3, 7);
        Check.words(high, 1, 1, 1, 1, 1, 1, 1, 1, 1, 1, 1, 1, 1, 1);
        Check.due("seven lines of two", high.tightestLimit(), 7);
        PosterFitter free = Check.poster(3, 8);
        Check.words(free, 1, 1, 1, 1, 1, 1, 1, 1, 1, 1, 1, 1, 1, 1);
        Check.due("a line without a gap may part them", free.tightestLimit(), 2);
    }
}

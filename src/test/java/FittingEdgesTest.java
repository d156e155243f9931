/** The document's sentences on sizes, layouts, chains and costs that name an edge; promises 14 to 19. */
public final class FittingEdgesTest {
    private static final int NONE = -1, BAD_VALUE = -3;

    public static void main(String[] args) {
        sizes();
        leastSizes();
        leastSizesOfOtherWeights();
        widths();
        gaps();
        heights();
        slacks();
        linesHaveWords();
        onlyFirstWordsHaveMarks();
        topRow();
        leading();
        rowsOnTheCanvas();
        spanAtLeastAsLong();
        alignments();
        touching();
        touchingInOtherSpans();
        onlyNextLinesTouch();
        chainLimit();
        chainsThroughManyLines();
        costs();
        lexicographicallyFirst();
        twoLayouts();
        cheaperThanAnEarlierOne();
        chainsOfOtherLayouts();
        noGapBeforeAFirstWord();
        narrowAbove();
        searchesInARow();
        noBestLayout();
        fitIsTheGreatestBase();
        basesBelowOne();
        costRanges();
        fitRanges();
        allowedRanges();
        takeRanges();
        takeOfNone();
        widestStepRanges();
        widestStepIsTheGreatest();
        tightestLimitRanges();
        tightestLimitOfAFit();
        wideWords();
        Check.end();
    }

    /** The sizes and lines of a layout that is taken, as digits. */
    private static long lines(PosterFitter x) {
        long digits = 0;
        for (int i = 0; i < x.layout(1); i++) {
            digits = 10 * digits + x.line(i, 1);
        }
        return digits;
    }

    private static PosterFitter oneWord(int columns, int rows, int letters, int weight) {
        PosterFitter x = Check.poster(columns, rows);
        x.addWord(letters, weight);
        return x;
    }

    private static void sizes() {
        Check.sentence("A size is given by a base, 1 to 12, and the step, 0 to 4 (1 at first): "
                + "a word with the weight w has the size base + (w - 1) * step.");
        PosterFitter x = oneWord(20, 20, 1, 3);
        x.setSizes(4, 1, 1, 1);
        Check.due("size 20 in 20 by 20", x.take(12), 0);
        Check.placed(x, 0, 0, 20, 20, 0, 0);
        Check.line(x, 0, 0, 1, 0, 20, 20, 0, 0);
        PosterFitter narrow = oneWord(19, 20, 1, 3);
        narrow.setSizes(4, 1, 1, 1);
        Check.due("size 20 in 19 columns", narrow.cost(12), NONE);
        Check.due("size 19 in 19 columns", narrow.cost(11), 0);
        PosterFitter low = oneWord(20, 19, 1, 3);
        low.setSizes(4, 1, 1, 1);
        Check.due("size 20 in 19 rows", low.cost(12), NONE);
        Check.due("size 19 in 19 rows", low.cost(11), 1);
        for (int weight = 1; weight <= 3; weight++) {
            PosterFitter first = oneWord(14, 14, 1, weight);
            Check.due("the step at first", first.take(12), (3 - weight) * (3 - weight));
            Check.due("its size", first.placed(0, 2), 11 + weight);
            first.setSizes(0, 1, 1, 1);
            Check.due("the step 0", first.take(12), 4);
            Check.due("its size", first.placed(0, 2), 12);
            Check.due("the step 0, base 1", first.take(1), 169);
            Check.due("its size", first.placed(0, 2), 1);
        }
    }

    private static void leastSizes() {
        Check.sentence("There is none if there are no words, if the size of a word is less than the least size of its weight");
        int[] greatest = {12, 16, 20};
        for (int weight = 1; weight <= 3; weight++) {
            int most = greatest[weight - 1];
            for (int least = most - 1; least <= 20; least++) {
                PosterFitter x = oneWord(48, 36, 1, weight);
                x.setSizes(4, weight == 1 ? least : 1, weight == 2 ? least : 1, weight == 3 ? least : 1);
                int slack = 48 - most;
                String what = "size " + most + ", least " + least;
                Check.due(what, x.cost(12), least <= most ? slack * slack : NONE);
                Check.due(what, x.allowed(12), least <= most ? 1 : 0);
                Check.due(what, x.fit(), least <= most ? 12 : NONE);
                Check.due(what, x.take(12), least <= most ? slack * slack : NONE);
                Check.due(what, x.widestStep(12), least <= most ? 4 : NONE);
                Check.due(what, x.tightestLimit(), least <= most ? 1 : NONE);
                Check.due(what + ", base 11", x.cost(11), least < most ? (slack + 1) * (slack + 1) : NONE);
            }
        }
    }

    private static void leastSizesOfOtherWeights() {
        Check.sentence("Each weight has a least size");
        for (int weight = 1; weight <= 3; weight++) {
            PosterFitter x = oneWord(10, 10, 1, weight);
            x.setSizes(0, weight == 1 ? 1 : 20, weight == 2 ? 1 : 20, weight == 3 ? 1 : 20);
            Check.due("no word has the other weights", x.cost(1), 81);
            x.addWord(1, weight % 3 + 1);
            Check.due("the last word is too small", x.cost(1), NONE);
            Check.due("the last word is too small", x.allowed(1), 0);
        }
    }

    private static void widths() {
        Check.sentence("A word is (letters * size) columns wide, and has (size) rows.");
        for (int letters = 1; letters <= 12; letters++) {
            for (int base = 1; base <= 12; base++) {
                int width = letters * base;
                PosterFitter x = oneWord(48, 36, letters, 1);
                Check.due("take(" + base + ")", x.take(base), width <= 48 ? (48 - width) * (48 - width) : NONE);
                Check.due("width of " + letters + " letters", x.placed(0, 1), width <= 48 ? width : -4);
                Check.due("height of the line", x.line(0, 3), width <= 48 ? base : -4);
            }
        }
        PosterFitter two = oneWord(48, 36, 2, 3);
        two.setSizes(4, 1, 1, 1);
        Check.due("two letters of the size 20", two.take(12), 64);
        Check.placed(two, 0, 0, 40, 20, 0, 0);
        two.setWord(0, 3, 3, false);
        Check.due("three letters of the size 20", two.take(12), NONE);
    }

    private static void gaps() {
        Check.sentence("The gap between two words that stand in a line one after the other is as wide as the smaller one of their sizes.");
        int[][] widths = {{1, 1, 3}, {1, 2, 5}, {1, 3, 7}, {2, 1, 5}, {2, 2, 9}, {2, 3, 11}, {3, 1, 7}, {3, 2, 11}, {3, 3, 15}};
        for (int[] w : widths) {
            PosterFitter x = oneWord(48, 36, 1, w[0]);
            x.addWord(1, w[1]);
            x.setSizes(2, 1, 1, 1);
            Check.due("take(1)", x.take(1), (48 - w[2]) * (48 - w[2]));
            Check.due("width of the weights " + w[0] + " and " + w[1], x.line(0, 4), w[2]);
            Check.due("begin of the second", x.placed(1, 0), w[2] - x.placed(1, 1));
        }
    }

    private static void heights() {
        Check.sentence("The height of a line is the greatest size of its words");
        for (int[] weights : new int[][] {{3, 1, 1}, {1, 3, 1}, {1, 1, 3}, {2, 3, 1}, {3, 3, 3}}) {
            for (int rows = 8; rows <= 10; rows++) {
                PosterFitter x = Check.poster(48, rows);
                x.setSizes(4, 1, 1, 1);
                for (int weight : weights) {
                    x.addWord(1, weight);
                }
                Check.due("the size 9 in " + rows + " rows", x.take(1) >= 0 ? 1 : 0, rows >= 9 ? 1 : 0);
                Check.due("lines in " + rows + " rows", x.layout(1), rows >= 9 ? 1 : -4);
                Check.due("height in " + rows + " rows", x.line(0, 3), rows >= 9 ? 9 : -4);
            }
        }
    }

    private static void slacks() {
        Check.sentence("The slack of a line is the length of the span minus its width.");
        for (int columns = 1; columns <= 48; columns++) {
            PosterFitter x = oneWord(columns, 1, 6, 1);
            int slack = columns - 6;
            Check.due("cost(1) in " + columns + " columns", x.take(1), slack >= 0 ? slack * slack : NONE);
            Check.due("slack in " + columns + " columns", x.line(0, 6), slack >= 0 ? slack : -4);
        }
    }

    private static void linesHaveWords() {
        Check.sentence("A layout for a base divides all words, in order, into lines; each line has at least one word");
        int layouts = 1;
        for (int words = 1; words <= 14; words++) {
            PosterFitter x = Check.poster(48, 36);
            Check.letters(x, words);
            Check.due("allowed(1) of " + words + " words", x.allowed(1), layouts);
            layouts *= 2;
        }
        PosterFitter x = Check.poster(48, 36);
        Check.letters(x, 14);
        x.setLines(0, 5, 0, 9);
        Check.due("at most six lines", x.allowed(1), 1 + 13 + 78 + 286 + 715 + 1287);
        x.setLines(35, 0, 0, 9);
        Check.due("just one line", x.allowed(1), 1);
        PosterFitter one = Check.poster(1, 36);
        Check.letters(one, 14);
        Check.due("just fourteen lines", one.allowed(1), 1);
        Check.due("take(1)", one.take(1), 0);
        Check.due("the lines", lines(one), 11111111111111L);
    }

    private static void onlyFirstWordsHaveMarks() {
        Check.sentence("and only its first one can have a mark (other than word 0)");
        for (int marked = 0; marked < 14; marked++) {
            PosterFitter x = Check.poster(48, 36);
            Check.letters(x, 14);
            x.setWord(marked, 1, 1, true);
            Check.due("allowed(1), word " + marked + " marked", x.allowed(1), marked == 0 ? 8192 : 4096);
            x.take(1);
            Check.due("lines, word " + marked + " marked", x.layout(1), marked == 0 ? 1 : 2);
            Check.due("words of line 0", x.line(0, 1), marked == 0 ? 14 : marked);
        }
        PosterFitter all = Check.poster(48, 36);
        Check.letters(all, 14);
        for (int marked = 0; marked < 14; marked++) {
            all.setWord(marked, 1, 1, true);
        }
        Check.due("allowed(1), all marked", all.allowed(1), 1);
        Check.due("cost(1), all marked", all.cost(1), 14 * 47 * 47);
    }

    private static void topRow() {
        Check.sentence("The first line begins in the top row (0 to 35; 0 at first)");
        PosterFitter x = new PosterFitter();
        x.addShape(0, 0, 0, 47, 35);
        Check.words(x, 1);
        x.take(1);
        Check.due("the top row at first", x.line(0, 2), 0);
        for (int top : new int[] {0, 1, 23, 24, 25, 34, 35}) {
            x.setLines(top, 0, 0, 9);
            x.take(1);
            Check.due("the top row " + top, x.line(0, 2), top);
            Check.due("fit() below the row " + top, x.fit(), Math.min(12, 36 - top));
            Check.due("cost(12)", x.cost(12), top <= 24 ? 36 * 36 : NONE);
        }
        PosterFitter high = Check.poster(48, 1);
        Check.words(high, 1);
        Check.due("only the first row is free", high.cost(1), 47 * 47);
        high.setLines(1, 0, 0, 9);
        Check.due("the lines begin below it", high.cost(1), NONE);
    }

    private static void leading() {
        Check.sentence("each further one so that as many rows lie between it and the one before as the leading tells (0 to 5; 1 at first)");
        PosterFitter x = new PosterFitter();
        x.addShape(0, 0, 0, 47, 35);
        Check.letters(x, 3);
        x.setWord(1, 1, 1, true);
        x.setWord(2, 1, 2, true);
        x.take(2);
        Check.due("the leading at first", x.line(1, 2), 3);
        Check.due("the leading at first", x.line(2, 2), 6);
        for (int leading = 0; leading <= 5; leading++) {
            x.setLines(3, leading, 0, 9);
            x.take(2);
            Check.due("line 1, leading " + leading, x.line(1, 2), 5 + leading);
            Check.due("line 2, leading " + leading, x.line(2, 2), 7 + 2 * leading);
            Check.due("the row below, leading " + leading, x.layout(4), 10 + 2 * leading);
        }
    }

    private static void rowsOnTheCanvas() {
        Check.sentence("The band of a line are its rows; all of them must be on the canvas");
        for (int leading = 0; leading <= 5; leading++) {
            PosterFitter x = Check.poster(48, 36);
            Check.letters(x, 2);
            x.setWord(1, 1, 1, true);
            x.setLines(34 - leading, leading, 0, 9);
            Check.due("the last line is in the last row, leading " + leading, x.cost(1), 2 * 47 * 47);
            x.take(1);
            Check.due("the row below", x.layout(4), 36);
            x.setLines(35 - leading, leading, 0, 9);
            Check.due("the last line is below the last row, leading " + leading, x.cost(1), NONE);
            Check.due("no layout is allowed", x.allowed(1), 0);
        }
        PosterFitter high = oneWord(48, 36, 1, 3);
        high.setSizes(4, 1, 1, 1);
        high.setLines(16, 5, 0, 9);
        Check.due("rows 16 to 35", high.cost(12), 28 * 28);
        high.setLines(17, 0, 0, 9);
        Check.due("rows 17 to 36", high.cost(12), NONE);
    }

    private static void spanAtLeastAsLong() {
        Check.sentence("the span of the band must be at least as long as the line is wide");
        Check.due("12 in 12", oneWord(12, 1, 12, 1).cost(1), 0);
        Check.due("12 in 11", oneWord(11, 1, 12, 1).cost(1), NONE);
        Check.due("48 in 48", oneWord(48, 4, 12, 1).cost(4), 0);
        Check.due("60 in 48", oneWord(48, 36, 12, 1).cost(5), NONE);
        PosterFitter gap = Check.poster(10, 1);
        Check.words(gap, 4, 5);
        Check.due("4 and 1 and 5 in 10", gap.cost(1), 0);
        gap.setWord(0, 5, 1, false);
        Check.due("5 and 1 and 5 in 10", gap.cost(1), NONE);
        PosterFitter hole = oneWord(48, 2, 12, 1);
        hole.addShape(0, 24, 0, 24, 0);
        Check.due("24 in the left one of two spans", hole.cost(2), 0);
        hole.addShape(0, 0, 1, 0, 1);
        Check.due("24 in 23", hole.cost(2), NONE);
        PosterFitter none = new PosterFitter();
        Check.words(none, 1);
        Check.due("no free cells", none.cost(1), NONE);
    }

    private static void alignments() {
        Check.sentence("behind 0 columns (0), behind slack / 2 columns, rounded down (1), or behind all of the slack (2)");
        for (int slack : new int[] {0, 1, 2, 3, 46, 47}) {
            int[] begins = {0, slack / 2, slack};
            for (int alignment = 0; alignment < 3; alignment++) {
                PosterFitter x = oneWord(slack + 1, 1, 1, 1);
                x.setLines(0, 0, alignment, 9);
                Check.due("take(1)", x.take(1), slack * slack);
                Check.due("alignment " + alignment + ", slack " + slack, x.placed(0, 0), begins[alignment]);
                Check.due("the span", x.line(0, 5), 0);
            }
        }
        Check.sentence("By the alignment (0 to 2; 1 at first)");
        PosterFitter first = new PosterFitter();
        first.addShape(0, 3, 0, 8, 0);
        Check.words(first, 1);
        Check.due("take(1)", first.take(1), 25);
        Check.due("the alignment at first", first.placed(0, 0), 5);
    }

    /** A gap in the columns 3 to 5 of one line, and one in a single column of the other. */
    private static void touching() {
        Check.sentence("A gap of a line and a gap of the next line touch if they have a column in common.");
        for (int column = 1; column <= 8; column++) {
            boolean touches = column >= 3 && column <= 5;
            PosterFitter above = Check.poster(12, 36);
            above.addWord(1, 3);
            above.addWord(1, 3);
            Check.words(above, column, 1);
            PosterFitter below = Check.poster(12, 36);
            Check.words(below, column, 1);
            below.addWord(1, 3);
            below.addWord(1, 3);
            for (PosterFitter x : new PosterFitter[] {above, below}) {
                x.setWord(2, x.word(2, 0), x.word(2, 1), true);
                int slack = 12 - column - 2;
                Check.due("take(1), column " + column, x.take(1), 9 + slack * slack);
                Check.due("lines", lines(x), 22);
                Check.due("longest chain, column " + column, x.layout(3), touches ? 2 : 1);
                Check.due("chain of the first gap", x.placed(1, 4), touches ? 2 : 1);
                Check.due("chain of the second gap", x.placed(3, 4), touches ? 2 : 1);
            }
        }
    }

    /** The gap of the first line is in the column 11, that of the second line one behind the begin of its span. */
    private static void touchingInOtherSpans() {
        Check.sentence("touch if they have a column in common");
        for (int begin = 7; begin <= 13; begin++) {
            PosterFitter x = new PosterFitter();
            x.addShape(0, 10, 0, 12, 0);
            x.addShape(0, begin, 1, begin + 2, 1);
            x.setLines(0, 0, 0, 9);
            Check.letters(x, 4);
            int chain = begin == 10 ? 2 : 1;
            Check.due("take(1)", x.take(1), 0);
            Check.due("longest chain, spans from 10 and " + begin, x.layout(3), chain);
            Check.due("chain of the last gap", x.placed(3, 4), chain);
            Check.due("begin of the last word", x.placed(3, 0), begin + 2);
            Check.due("tightestLimit()", x.tightestLimit(), chain);
        }
    }

    private static void onlyNextLinesTouch() {
        Check.sentence("A chain is a sequence of gaps of successive lines, each of which touches the next one");
        PosterFitter x = Check.poster(3, 3);
        Check.words(x, 1, 1, 3, 1, 1);
        x.setLines(0, 0, 0, 1);
        Check.due("a line without a gap between two gaps", x.take(1), 0);
        Check.due("lines", lines(x), 212);
        Check.layout(x, 1, 3, 0, 1, 3);
        PosterFitter other = Check.poster(5, 3);
        Check.words(other, 1, 3, 3, 1, 1, 3);
        other.setLines(0, 0, 0, 1);
        Check.due("a line with a gap elsewhere between two gaps", other.take(1), 0);
        Check.layout(other, 1, 3, 0, 1, 3);
    }

    private static PosterFitter pairs(int lines) {
        PosterFitter x = Check.poster(3, lines);
        Check.letters(x, 2 * lines);
        return x;
    }

    private static void chainLimit() {
        Check.sentence("A layout is allowed if no chain is longer than the chain limit, 1 to 9 (9 at first).");
        for (int length = 1; length <= 7; length++) {
            PosterFitter x = pairs(length);
            for (int limit = 1; limit <= 9; limit++) {
                x.setLines(0, 0, 0, limit);
                String what = "chain of " + length + ", limit " + limit;
                Check.due(what + ": allowed", x.allowed(1), length <= limit ? 1 : 0);
                Check.due(what + ": cost", x.cost(1), length <= limit ? 0 : NONE);
                Check.due(what + ": fit", x.fit(), length <= limit ? 1 : NONE);
                Check.due(what + ": take", x.take(1), length <= limit ? 0 : NONE);
                Check.due(what + ": take(0)", x.take(0), length <= limit ? 0 : NONE);
                Check.due(what + ": widestStep", x.widestStep(1), length <= limit ? 4 : NONE);
                Check.due(what + ": tightestLimit", x.tightestLimit(), length);
            }
            x.setLines(0, 0, 0, 9);
            x.take(1);
            Check.due("layout(3)", x.layout(3), length);
        }
        PosterFitter first = new PosterFitter();
        first.addShape(0, 0, 0, 2, 12);
        Check.letters(first, 14);
        Check.due("the limit at first", first.cost(1), 0);
    }

    private static void chainsThroughManyLines() {
        Check.sentence("its length is the number of its gaps");
        PosterFitter x = pairs(7);
        x.take(1);
        Check.layout(x, 1, 7, 0, 7, 7);
        for (int word = 0; word < 14; word++) {
            Check.due("placed(" + word + ", 4)", x.placed(word, 4), word % 2 == 0 ? 0 : 7);
        }
        PosterFitter flat = Check.poster(27, 1);
        Check.letters(flat, 14);
        flat.setLines(0, 0, 0, 1);
        Check.due("thirteen gaps in one line", flat.take(1), 0);
        Check.layout(flat, 1, 1, 0, 1, 1);
        Check.due("chain of the last gap", flat.placed(13, 4), 1);
    }

    private static void costs() {
        Check.sentence("The cost of a layout is the sum of the squares of the slacks of its lines.");
        Check.due("no slack", pairs(7).cost(1), 0);
        Check.due("slack 1", oneWord(13, 1, 12, 1).cost(1), 1);
        Check.due("slack 47", oneWord(48, 1, 1, 1).cost(1), 2209);
        PosterFitter x = Check.poster(48, 36);
        Check.letters(x, 14);
        for (int word = 1; word < 14; word++) {
            x.setWord(word, 1, 1, true);
        }
        Check.due("fourteen times slack 47", x.cost(1), 30926);
        Check.due("it is taken", x.take(1), 30926);
        Check.due("it is told", x.layout(2), 30926);
    }

    private static void lexicographicallyFirst() {
        Check.sentence("of several the one whose sequence of the numbers of words of its lines is lexicographically first");
        PosterFitter x = Check.poster(3, 36);
        Check.letters(x, 13);
        Check.due("one of seven lines has one word", x.take(1), 4);
        Check.due("the first one", lines(x), 1222222);
        x.setLines(0, 0, 0, 5);
        Check.due("limit 5", x.take(1), 4);
        Check.due("the second one", lines(x), 2122222);
        x.setLines(0, 0, 0, 3);
        Check.due("limit 3", x.take(1), 4);
        Check.due("the middle one", lines(x), 2221222);
        x.setLines(0, 0, 0, 2);
        Check.due("limit 2", x.take(1), 12);
        Check.due("three lines with one word", lines(x), 12122122);
        Check.sentence("The best layout for a base is the allowed one with the least cost");
        PosterFitter y = Check.poster(10, 36);
        Check.words(y, 3, 5, 4);
        Check.due("take(1)", y.take(1), 37);
        Check.due("a cheaper one is better than an earlier one", lines(y), 21);
        y.setWord(2, 5, 1, false);
        y.setWord(0, 5, 1, false);
        y.setWord(1, 4, 1, false);
        Check.due("take(1)", y.take(1), 25);
        Check.due("of two the first one", lines(y), 12);
    }

    private static void twoLayouts() {
        Check.sentence("The best layout for a base is the allowed one with the least cost; of several the one");
        PosterFitter tie = Check.poster(10, 2);
        Check.words(tie, 5, 4, 5);
        Check.due("allowed(1)", tie.allowed(1), 2);
        Check.due("both cost the same", tie.take(1), 25);
        Check.due("the first one", lines(tie), 12);
        PosterFitter first = Check.poster(10, 2);
        Check.words(first, 5, 4, 3);
        Check.due("allowed(1)", first.allowed(1), 2);
        Check.due("the first one is cheaper", first.take(1), 29);
        Check.due("the first one", lines(first), 12);
        PosterFitter second = Check.poster(6, 4);
        second.addWord(1, 2);
        second.addWord(1, 2);
        second.addWord(2, 1);
        Check.due("allowed(1)", second.allowed(1), 2);
        Check.due("the second one is cheaper by 1", second.take(1), 16);
        Check.due("the second one", lines(second), 21);
    }

    /** What the lines behind the first one may cost at least must not be taken for more than it is. */
    private static void cheaperThanAnEarlierOne() {
        Check.sentence("The best layout for a base is the allowed one with the least cost");
        PosterFitter x = Check.poster(4, 3);
        Check.words(x, 1, 1, 2, 1, 1);
        Check.due("allowed(1)", x.allowed(1), 3);
        Check.due("the slacks 1, 2, 1 instead of 3, 0, 1", x.take(1), 6);
        Check.due("lines", lines(x), 212);
        PosterFitter steps = new PosterFitter();
        steps.addShape(0, 0, 0, 7, 0);
        steps.addShape(0, 0, 1, 6, 1);
        steps.addShape(0, 0, 2, 1, 2);
        steps.setLines(0, 0, 0, 1);
        Check.words(steps, 2, 2, 2, 1);
        Check.due("allowed(1)", steps.allowed(1), 4);
        Check.due("the slacks 3, 5, 1 instead of 6, 0", steps.take(1), 35);
        Check.due("lines", lines(steps), 211);
    }

    /** Two pairs would cost less than all other lines, but are a chain of two. */
    private static void chainsOfOtherLayouts() {
        Check.sentence("A layout is allowed if no chain is longer than the chain limit");
        PosterFitter x = Check.poster(3, 36);
        Check.letters(x, 4);
        x.setLines(0, 0, 0, 1);
        Check.due("take(1)", x.take(1), 8);
        Check.due("lines", lines(x), 112);
        Check.layout(x, 1, 3, 8, 1, 3);
        Check.placed(x, 0, 0, 1, 1, 0, 0);
        Check.placed(x, 1, 0, 1, 1, 1, 0);
        Check.placed(x, 2, 0, 1, 1, 2, 0);
        Check.placed(x, 3, 2, 1, 1, 2, 1);
    }

    /** The lines end at the right edge; only those of two pairs would have gaps in the same column. */
    private static void noGapBeforeAFirstWord() {
        Check.sentence("A gap of a line and a gap of the next line touch if they have a column in common.");
        PosterFitter x = Check.poster(9, 3);
        Check.words(x, 4, 3, 3, 3);
        x.setLines(0, 0, 2, 1);
        Check.due("allowed(1)", x.allowed(1), 3);
        Check.due("take(1)", x.take(1), 65);
        Check.due("lines", lines(x), 112);
        x.setLines(0, 0, 2, 2);
        Check.due("take(1), limit 2", x.take(1), 5);
        Check.due("lines, limit 2", lines(x), 22);
    }

    private static void narrowAbove() {
        Check.sentence("the span of the band must be at least as long as the line is wide");
        PosterFitter x = new PosterFitter();
        x.addShape(0, 0, 0, 1, 0);
        x.addShape(0, 0, 1, 11, 1);
        x.setLines(0, 0, 0, 9);
        Check.words(x, 2, 12);
        Check.due("the first word fits just above, the second one just below", x.take(1), 0);
        Check.due("lines", lines(x), 11);
        Check.due("fit()", x.fit(), 1);
        Check.due("allowed(1)", x.allowed(1), 1);
        x.setLines(1, 0, 0, 9);
        Check.due("from the row below on", x.cost(1), NONE);
    }

    /** Nothing that a search has found may be left for the next one. */
    private static void searchesInARow() {
        Check.sentence("Returns the cost of the best layout for a base.");
        PosterFitter x = Check.poster(3, 36);
        Check.letters(x, 14);
        Check.due("fourteen words", x.cost(1), 0);
        x.setLines(29, 0, 0, 9);
        Check.due("in the last seven rows", x.cost(1), 0);
        x.setLines(30, 0, 0, 9);
        Check.due("in the last six rows", x.cost(1), NONE);
        x.setWord(12, 3, 1, false);
        x.setWord(13, 3, 1, false);
        x.setLines(0, 0, 0, 9);
        Check.due("two long words at the end", x.cost(1), 0);
        x.undo();
        Check.due("two long words below the canvas", x.cost(1), NONE);
        x.clearWords();
        Check.due("no words", x.cost(1), NONE);
        Check.words(x, 1, 3);
        Check.due("two words in two of six rows", x.cost(1), 4);
        x.setLines(35, 0, 0, 9);
        Check.due("two words in the last row", x.cost(1), NONE);
        x.setWord(1, 1, 1, false);
        Check.due("two short words in the last row", x.cost(1), 0);
    }

    private static void none(String what, PosterFitter x, int base) {
        Check.due(what + ": cost", x.cost(base), NONE);
        Check.due(what + ": allowed", x.allowed(base), 0);
        Check.due(what + ": fit", x.fit(), NONE);
        Check.due(what + ": take", x.take(base), NONE);
        Check.due(what + ": take(0)", x.take(0), NONE);
        Check.due(what + ": widestStep", x.widestStep(base), NONE);
        Check.due(what + ": tightestLimit", x.tightestLimit(), NONE);
        Check.due(what + ": no present layout", x.count(11), 0);
    }

    private static void noBestLayout() {
        Check.sentence("There is none if there are no words, if the size of a word is less than the least size of its weight, "
                + "or if no layout is allowed.");
        for (int base = 1; base <= 12; base++) {
            none("nothing", new PosterFitter(), base);
            none("no words", Check.poster(48, 36), base);
            PosterFitter noShapes = new PosterFitter();
            Check.words(noShapes, 1);
            none("no shapes", noShapes, base);
            PosterFitter small = oneWord(48, 36, 1, 1);
            small.setSizes(0, 13, 1, 1);
            none("too small", small, base);
            none("too long", oneWord(11, 36, 12, 1), base);
            none("all words removed", cleared(), base);
        }
    }

    private static PosterFitter cleared() {
        PosterFitter x = oneWord(48, 36, 1, 1);
        x.clearWords();
        return x;
    }

    /** Two lines in two rooms, one below the other: for the base 2 one line would stand in both. */
    private static PosterFitter twoRooms(int rows, int weight) {
        PosterFitter x = new PosterFitter();
        x.addShape(0, 0, 0, rows - 1, rows - 1);
        x.addShape(0, 20, rows, 19 + rows, 2 * rows - 1);
        x.setLines(0, 0, 0, 9);
        x.addWord(1, weight);
        x.addWord(1, weight);
        x.setWord(1, 1, weight, true);
        return x;
    }

    private static void fitIsTheGreatestBase() {
        Check.sentence("The fit is the greatest base for which there is a best layout.");
        Check.due("the greatest base of all", oneWord(48, 36, 1, 1).fit(), 12);
        Check.due("just the base 12", oneWord(12, 12, 1, 1).fit(), 12);
        Check.due("the base 11", oneWord(11, 12, 1, 1).fit(), 11);
        Check.due("the base 1", oneWord(12, 1, 12, 1).fit(), 1);
        PosterFitter x = twoRooms(3, 1);
        Check.due("base 1", x.cost(1), 8);
        Check.due("base 2", x.cost(2), NONE);
        Check.due("base 3", x.cost(3), 0);
        Check.due("base 4", x.cost(4), NONE);
        Check.due("fit()", x.fit(), 3);
        Check.due("take(0)", x.take(0), 0);
        Check.due("its base", x.layout(0), 3);
        PosterFitter least = oneWord(20, 20, 1, 2);
        least.setSizes(4, 1, 16, 1);
        Check.due("only the base 12 is large enough", least.fit(), 12);
        Check.due("base 11", least.cost(11), NONE);
    }

    /** With the step 4 the size 8 would be that of the base 0, and 7 that of the base -1. */
    private static void basesBelowOne() {
        Check.sentence("A size is given by a base, 1 to 12");
        for (int cells = 1; cells <= 9; cells++) {
            PosterFitter x = oneWord(cells, cells, 1, 3);
            x.setSizes(4, 1, 1, 1);
            int fit = cells == 9 ? 1 : NONE;
            Check.due("fit() in " + cells + " columns", x.fit(), fit);
            Check.due("tightestLimit() in " + cells + " columns", x.tightestLimit(), fit);
            Check.due("take(0) in " + cells + " columns", x.take(0), cells == 9 ? 0 : NONE);
            Check.due("count(11) in " + cells + " columns", x.count(11), cells == 9 ? 1 : 0);
        }
    }

    private static PosterFitter some() {
        PosterFitter x = Check.poster(10, 36);
        Check.words(x, 3, 3, 3);
        Check.type(x, "a/b");
        x.take(2);
        return x;
    }

    private static void costRanges() {
        Check.sentence("Returns the cost; NONE if there is no best layout; BAD_VALUE if base is out of range.");
        for (int bad : Check.outside(1, 12)) {
            Story.refused("cost(" + bad + ")", FittingEdgesTest::some, BAD_VALUE, x -> x.cost(bad));
            Story.refused("cost(" + bad + ") of nothing", PosterFitter::new, BAD_VALUE, x -> x.cost(bad));
        }
        int[] costs = {58, 48, 3};
        for (int base = 1; base <= 12; base++) {
            int asked = base;
            Story.told("cost(" + base + ")", FittingEdgesTest::some, base <= 3 ? costs[base - 1] : NONE, x -> x.cost(asked));
            Story.told("cost(" + base + ") of nothing", PosterFitter::new, NONE, x -> x.cost(asked));
        }
    }

    private static void fitRanges() {
        Check.sentence("Returns the base; NONE if there is none.");
        Story.told("fit()", FittingEdgesTest::some, 3, x -> x.fit());
        Story.told("fit() of nothing", PosterFitter::new, NONE, x -> x.fit());
    }

    private static void allowedRanges() {
        Check.sentence("Returns how many layouts are allowed for a base (0 if there is no best layout).");
        for (int bad : Check.outside(1, 12)) {
            Story.refused("allowed(" + bad + ")", FittingEdgesTest::some, BAD_VALUE, x -> x.allowed(bad));
            Story.refused("allowed(" + bad + ") of nothing", PosterFitter::new, BAD_VALUE, x -> x.allowed(bad));
        }
        int[] allowed = {3, 1, 1};
        for (int base = 1; base <= 12; base++) {
            int asked = base;
            Story.told("allowed(" + base + ")", FittingEdgesTest::some, base <= 3 ? allowed[base - 1] : 0, x -> x.allowed(asked));
            Story.told("allowed(" + base + ") of nothing", PosterFitter::new, 0, x -> x.allowed(asked));
        }
    }

    private static void takeRanges() {
        Check.sentence("1 to 12, or 0 for the fit");
        for (int bad : Check.outside(0, 12)) {
            Story.refused("take(" + bad + ")", FittingEdgesTest::some, BAD_VALUE, x -> x.take(bad));
            Story.refused("take(" + bad + ") of nothing", PosterFitter::new, BAD_VALUE, x -> x.take(bad));
        }
        PosterFitter x = some();
        Check.due("take(1)", x.take(1), 58);
        Check.layout(x, 1, 2, 58, 1, 2);
        Check.due("take(0)", x.take(0), 3);
        Check.layout(x, 3, 3, 3, 0, 9);
        PosterFitter large = oneWord(12, 12, 1, 1);
        Check.due("take(12)", large.take(12), 0);
        Check.layout(large, 12, 1, 0, 0, 12);
    }

    private static void takeOfNone() {
        Check.sentence("NONE if there is no best layout, or no fit (then only the history changes)");
        PosterFitter x = some();
        long before = x.digest();
        Check.due("take(4)", x.take(4), NONE);
        Check.due("digest()", x.digest(), before);
        x.removeShape(0);
        before = x.digest();
        Check.due("take(0) without a fit", x.take(0), NONE);
        Check.due("digest()", x.digest(), before);
        Check.due("clearText()", x.clearText(), 3);
        Check.sentence("Recorded, also if the result is NONE.");
        PosterFitter nothing = new PosterFitter();
        Check.due("take(0) of nothing", nothing.take(0), NONE);
        Check.due("take(12) of nothing", nothing.take(12), NONE);
        Check.due("digest()", nothing.digest(), new PosterFitter().digest());
        Check.due("undo()", nothing.undo(), 1);
        Check.due("undo()", nothing.undo(), 0);
        Check.due("undo()", nothing.undo(), -4);
    }

    private static void widestStepRanges() {
        Check.sentence("Returns the step; NONE if there is none; BAD_VALUE if base is out of range.");
        for (int bad : Check.outside(1, 12)) {
            Story.refused("widestStep(" + bad + ")", FittingEdgesTest::some, BAD_VALUE, x -> x.widestStep(bad));
            Story.refused("widestStep(" + bad + ") of nothing", PosterFitter::new, BAD_VALUE, x -> x.widestStep(bad));
        }
        for (int base = 1; base <= 12; base++) {
            int asked = base;
            Story.told("widestStep(" + base + ")", FittingEdgesTest::some, base <= 3 ? 4 : NONE, x -> x.widestStep(asked));
            Story.told("widestStep(" + base + ") of nothing", PosterFitter::new, NONE, x -> x.widestStep(asked));
        }
    }

    private static void widestStepIsTheGreatest() {
        Check.sentence("Returns the greatest step for which there is a best layout for a base (with the other settings as they are).");
        for (int columns = 11; columns <= 21; columns++) {
            int step = columns < 12 ? NONE : Math.min(4, (columns - 12) / 2);
            PosterFitter x = oneWord(columns, 36, 1, 3);
            Check.due("weight 3 in " + columns + " columns", x.widestStep(12), step);
            x.setSizes(4, 1, 1, 1);
            Check.due("whatever the step is", x.widestStep(12), step);
            x.setSizes(0, 1, 1, 1);
            Check.due("whatever the step is", x.widestStep(12), step);
            Check.due("the step stays", x.count(2), 0);
        }
        PosterFitter least = oneWord(9, 9, 1, 3);
        least.setSizes(0, 20, 20, 9);
        Check.due("only the step 4 is large enough", least.widestStep(1), 4);
        least.setSizes(0, 20, 20, 10);
        Check.due("no step is large enough", least.widestStep(1), NONE);
        PosterFitter rooms = twoRooms(5, 3);
        rooms.setSizes(0, 1, 1, 1);
        Check.due("step 0", rooms.cost(1), 32);
        rooms.setSizes(1, 1, 1, 1);
        Check.due("step 1", rooms.cost(1), NONE);
        Check.due("step 2 is the greatest one", rooms.widestStep(1), 2);
    }

    private static void tightestLimitRanges() {
        Check.sentence("Returns the limit; NONE if there is no fit with the limit 9.");
        Story.told("tightestLimit()", FittingEdgesTest::some, 1, x -> x.tightestLimit());
        Story.told("tightestLimit() of nothing", PosterFitter::new, NONE, x -> x.tightestLimit());
        for (int lines = 1; lines <= 7; lines++) {
            int asked = lines;
            Story.told("tightestLimit() of " + lines + " pairs", () -> pairs(asked), lines, x -> x.tightestLimit());
        }
        PosterFitter x = pairs(3);
        Check.letters(x, 1);
        Check.due("no fit", x.tightestLimit(), NONE);
    }

    /** With the limit 1 smaller words fit, in other lines: that is another fit. */
    private static void tightestLimitOfAFit() {
        Check.sentence("Returns the least chain limit for which the fit is what it is with the limit 9 (with the other settings as they are).");
        PosterFitter x = Check.poster(6, 4);
        Check.letters(x, 4);
        Check.due("fit()", x.fit(), 2);
        Check.due("tightestLimit()", x.tightestLimit(), 2);
        x.setLines(0, 0, 0, 1);
        Check.due("fit(), limit 1", x.fit(), 1);
        Check.due("tightestLimit(), limit 1", x.tightestLimit(), 2);
        Check.due("the limit stays", x.count(9), 1);
        x.setLines(1, 0, 0, 1);
        Check.due("fit() from the row 1 on", x.fit(), 1);
        Check.due("tightestLimit() from the row 1 on", x.tightestLimit(), 1);
    }

    private static void wideWords() {
        Check.sentence("its width is the sum of the widths of its words and gaps");
        PosterFitter x = Check.poster(48, 36);
        for (int i = 0; i < 14; i++) {
            x.addWord(12, 3);
        }
        x.setSizes(4, 1, 1, 1);
        for (int base = 1; base <= 12; base++) {
            Check.due("cost(" + base + ") of the widest words", x.cost(base), NONE);
            Check.due("allowed(" + base + ") of the widest words", x.allowed(base), 0);
        }
        Check.due("fit() of the widest words", x.fit(), NONE);
        x.setSizes(0, 1, 1, 1);
        Check.due("cost(1), step 0", x.cost(1), 4 * (48 - 38) * (48 - 38) + 23 * 23);
    }
}

import java.util.function.Consumer;

/** The document's sentences on the present layout that name an edge; promises 20 to 22. */
public final class LayoutEdgesTest {
    private static final int NONE = -1, BAD_INDEX = -2, BAD_VALUE = -3, BAD_STATE = -4;

    public static void main(String[] args) {
        noneAtFirst();
        noPresentLayout();
        layoutRanges();
        lineRanges();
        placedRanges();
        oneWord();
        fourteenLines();
        oneLineOfFourteen();
        rowBelow();
        edgesOfTheCanvas();
        keptWhateverBecomes();
        wordsOfTheLayout();
        anotherLayout();
        noGapNoChain();
        Check.end();
    }

    private static PosterFitter fourteen(int columns, int rows) {
        PosterFitter x = Check.poster(columns, rows);
        Check.letters(x, 14);
        return x;
    }

    /** Two lines, of two words and of one. */
    private static PosterFitter three() {
        PosterFitter x = Check.poster(7, 36);
        Check.words(x, 3, 3, 5);
        Check.type(x, "ab");
        Check.due("take(1)", x.take(1), 4);
        return x;
    }

    private static void noneAtFirst() {
        Check.sentence("There is a present layout, or none (none at first).");
        PosterFitter x = new PosterFitter();
        Check.due("count(11)", x.count(11), 0);
        Check.due("layout(0)", x.layout(0), BAD_STATE);
        PosterFitter y = Check.poster(7, 36);
        Check.words(y, 3);
        y.cost(1);
        y.fit();
        y.allowed(1);
        y.widestStep(1);
        y.tightestLimit();
        Check.due("count(11) behind searches", y.count(11), 0);
        Check.due("layout(0) behind searches", y.layout(0), BAD_STATE);
        y.take(12);
        Check.due("count(11) behind take of none", y.count(11), 0);
        y.take(1);
        Check.due("count(11) behind take", y.count(11), 1);
        y.undo();
        Check.due("count(11) behind undo", y.count(11), 0);
        Check.due("line(0, 0) behind undo", y.line(0, 0), BAD_STATE);
        Check.due("placed(0, 0) behind undo", y.placed(0, 0), BAD_STATE);
    }

    private static PosterFitter without() {
        PosterFitter x = Check.poster(7, 36);
        Check.words(x, 3, 3, 5);
        return x;
    }

    private static void noPresentLayout() {
        Check.sentence("BAD_STATE if there is no present layout (looked at first).");
        int[] values = {Integer.MIN_VALUE, -1, 0, 1, 2, 3, 4, 5, 6, 7, Integer.MAX_VALUE};
        for (int first : values) {
            for (int what : values) {
                Check.due("line(" + first + ", " + what + ")", without().line(first, what), BAD_STATE);
                Check.due("placed(" + first + ", " + what + ")", without().placed(first, what), BAD_STATE);
            }
        }
        Story.refused("line(0, 0)", LayoutEdgesTest::without, BAD_STATE, x -> x.line(0, 0));
        Story.refused("line(-1, 7)", LayoutEdgesTest::without, BAD_STATE, x -> x.line(-1, 7));
        Story.refused("placed(0, 0)", LayoutEdgesTest::without, BAD_STATE, x -> x.placed(0, 0));
        Story.refused("placed(3, 5)", LayoutEdgesTest::without, BAD_STATE, x -> x.placed(3, 5));
        Check.sentence("Returns the number; BAD_VALUE if what is out of range; BAD_STATE if there is no present layout.");
        for (int what = 0; what <= 4; what++) {
            int asked = what;
            Story.refused("layout(" + what + ")", LayoutEdgesTest::without, BAD_STATE, x -> x.layout(asked));
        }
        for (int bad : Check.outside(0, 4)) {
            Story.refused("layout(" + bad + ")", LayoutEdgesTest::without, BAD_VALUE, x -> x.layout(bad));
        }
    }

    private static void layoutRanges() {
        Check.sentence("0 its base, 1 the number of its lines, 2 its cost, 3 the length of its longest chain "
                + "(0 if there are no gaps), 4 the number of the row below its last line");
        for (int bad : Check.outside(0, 4)) {
            Story.refused("layout(" + bad + ")", LayoutEdgesTest::three, BAD_VALUE, x -> x.layout(bad));
        }
        int[] numbers = {1, 2, 4, 1, 2};
        for (int what = 0; what <= 4; what++) {
            int asked = what;
            Story.told("layout(" + what + ")", LayoutEdgesTest::three, numbers[what], x -> x.layout(asked));
        }
    }

    private static void lineRanges() {
        Check.sentence("Returns the property; BAD_INDEX if there is no such line; BAD_VALUE if what is out of range");
        for (int bad : Check.outside(0, 1)) {
            for (int what : new int[] {Integer.MIN_VALUE, -1, 0, 6, 7, Integer.MAX_VALUE}) {
                Story.refused("line(" + bad + ", " + what + ")", LayoutEdgesTest::three, BAD_INDEX, x -> x.line(bad, what));
            }
        }
        for (int bad : Check.outside(0, 6)) {
            Story.refused("line(0, " + bad + ")", LayoutEdgesTest::three, BAD_VALUE, x -> x.line(0, bad));
            Story.refused("line(1, " + bad + ")", LayoutEdgesTest::three, BAD_VALUE, x -> x.line(1, bad));
        }
        int[] numbers = {2, 1, 1, 1, 5, 0, 2};
        for (int what = 0; what <= 6; what++) {
            int asked = what;
            Story.told("line(1, " + what + ")", LayoutEdgesTest::three, numbers[what], x -> x.line(1, asked));
        }
    }

    private static void placedRanges() {
        Check.sentence("Returns the property; BAD_INDEX if there is no such word; BAD_VALUE if what is out of range");
        for (int bad : Check.outside(0, 2)) {
            for (int what : new int[] {Integer.MIN_VALUE, -1, 0, 4, 5, Integer.MAX_VALUE}) {
                Story.refused("placed(" + bad + ", " + what + ")", LayoutEdgesTest::three, BAD_INDEX, x -> x.placed(bad, what));
            }
        }
        for (int bad : Check.outside(0, 4)) {
            Story.refused("placed(0, " + bad + ")", LayoutEdgesTest::three, BAD_VALUE, x -> x.placed(0, bad));
            Story.refused("placed(2, " + bad + ")", LayoutEdgesTest::three, BAD_VALUE, x -> x.placed(2, bad));
        }
        int[] numbers = {4, 3, 1, 0, 1};
        for (int what = 0; what <= 4; what++) {
            int asked = what;
            Story.told("placed(1, " + what + ")", LayoutEdgesTest::three, numbers[what], x -> x.placed(1, asked));
        }
    }

    private static void oneWord() {
        Check.sentence("each line has at least one word");
        PosterFitter x = Check.poster(1, 1);
        Check.words(x, 1);
        Check.due("take(1)", x.take(1), 0);
        Check.layout(x, 1, 1, 0, 0, 1);
        Check.line(x, 0, 0, 1, 0, 1, 1, 0, 0);
        Check.placed(x, 0, 0, 1, 1, 0, 0);
        Check.due("line(1, 0)", x.line(1, 0), BAD_INDEX);
        Check.due("placed(1, 0)", x.placed(1, 0), BAD_INDEX);
    }

    private static void fourteenLines() {
        Check.sentence("0 its first word, 1 how many words it has, 2 its first row, 3 its height, 4 its width, "
                + "5 the first column of its span, 6 its slack");
        PosterFitter x = fourteen(1, 36);
        x.setLines(9, 1, 0, 1);
        Check.due("take(1)", x.take(1), 0);
        Check.layout(x, 1, 14, 0, 0, 36);
        for (int i = 0; i < 14; i++) {
            Check.line(x, i, i, 1, 9 + 2 * i, 1, 1, 0, 0);
            Check.placed(x, i, 0, 1, 1, i, 0);
        }
        Check.due("line(14, 0)", x.line(14, 0), BAD_INDEX);
        Check.due("placed(14, 0)", x.placed(14, 0), BAD_INDEX);
    }

    private static void oneLineOfFourteen() {
        Check.sentence("0 the column in which it begins, 1 its width, 2 its size, 3 its line, "
                + "4 the length of the longest chain that contains the gap before it (0 if there is no gap before it)");
        PosterFitter x = fourteen(48, 36);
        Check.due("take(1)", x.take(1), 21 * 21);
        Check.layout(x, 1, 1, 441, 1, 1);
        Check.line(x, 0, 0, 14, 0, 1, 27, 0, 21);
        for (int i = 0; i < 14; i++) {
            Check.placed(x, i, 2 * i, 1, 1, 0, i == 0 ? 0 : 1);
        }
        Check.due("line(1, 0)", x.line(1, 0), BAD_INDEX);
        Check.due("placed(14, 0)", x.placed(14, 0), BAD_INDEX);
    }

    private static void rowBelow() {
        Check.sentence("4 the number of the row below its last line");
        for (int leading = 0; leading <= 5; leading++) {
            PosterFitter x = Check.poster(48, 36);
            x.setLines(35, leading, 1, 9);
            Check.words(x, 1);
            x.take(1);
            Check.due("below the last row, leading " + leading, x.layout(4), 36);
            x.setLines(0, leading, 1, 9);
            x.take(1);
            Check.due("below the first row, leading " + leading, x.layout(4), 1);
        }
        PosterFitter high = Check.poster(48, 36);
        high.addWord(1, 3);
        high.addWord(1, 1);
        high.setSizes(4, 1, 1, 1);
        high.take(12);
        Check.due("below the higher one of two words", high.layout(4), 20);
    }

    private static void edgesOfTheCanvas() {
        Check.sentence("5 the first column of its span");
        PosterFitter right = new PosterFitter();
        right.addShape(0, 47, 35, 47, 35);
        right.setLines(35, 0, 2, 1);
        Check.words(right, 1);
        Check.due("take(0)", right.take(0), 0);
        Check.line(right, 0, 0, 1, 35, 1, 1, 47, 0);
        Check.placed(right, 0, 47, 1, 1, 0, 0);
        PosterFitter whole = Check.poster(48, 36);
        whole.setLines(0, 0, 2, 9);
        Check.words(whole, 1);
        Check.due("take(1)", whole.take(1), 47 * 47);
        Check.line(whole, 0, 0, 1, 0, 1, 1, 0, 47);
        Check.placed(whole, 0, 47, 1, 1, 0, 0);
    }

    private static String told(PosterFitter x) {
        StringBuilder seen = new StringBuilder();
        for (int what = 0; what < 5; what++) {
            seen.append(x.layout(what)).append(' ');
        }
        for (int line = 0; line <= 2; line++) {
            for (int what = 0; what < 7; what++) {
                seen.append(x.line(line, what)).append(' ');
            }
        }
        for (int word = 0; word <= 3; word++) {
            for (int what = 0; what < 5; what++) {
                seen.append(x.placed(word, what)).append(' ');
            }
        }
        return seen.toString();
    }

    private static void keeps(String what, Consumer<PosterFitter> call) {
        PosterFitter x = three();
        call.accept(x);
        Check.same("the layout behind " + what, told(x), told(three()));
        Check.due("there is a layout behind " + what, x.count(11), 1);
    }

    private static void keptWhateverBecomes() {
        Check.sentence("all that is told of it is told by the words, shapes and settings that it was made of, whatever becomes of them");
        keeps("addShape", x -> x.addShape(0, 0, 0, 6, 5));
        keeps("moveShape", x -> x.moveShape(0, 9, 0));
        keeps("removeShape", x -> x.removeShape(0));
        keeps("addWord", x -> x.addWord(12, 3));
        keeps("setWord", x -> x.setWord(0, 12, 3, true));
        keeps("setWord of another line", x -> x.setWord(2, 1, 1, false));
        keeps("clearWords", x -> x.clearWords());
        keeps("load", x -> x.load());
        keeps("setSizes", x -> x.setSizes(4, 20, 20, 20));
        keeps("setLines", x -> x.setLines(35, 5, 2, 1));
        keeps("alignment", x -> x.setLines(0, 0, 2, 9));
        keeps("take of none", x -> x.take(12));
        keeps("cost", x -> x.cost(2));
        keeps("allowed", x -> x.allowed(2));
        keeps("widestStep", x -> x.widestStep(2));
        keeps("tightestLimit", x -> x.tightestLimit());
        keeps("take and undo", x -> {
            x.take(2);
            x.undo();
        });
    }

    private static void wordsOfTheLayout() {
        Check.sentence("its number among the words that the layout was made of");
        PosterFitter less = three();
        less.clearWords();
        Check.placed(less, 2, 0, 5, 1, 1, 0);
        Check.due("word(2, 0)", less.word(2, 0), BAD_INDEX);
        PosterFitter more = three();
        more.addWord(1, 1);
        Check.due("placed(3, 0)", more.placed(3, 0), BAD_INDEX);
        Check.due("word(3, 0)", more.word(3, 0), 1);
        PosterFitter full = fourteen(48, 36);
        full.take(1);
        full.clearWords();
        Check.placed(full, 13, 26, 1, 1, 0, 1);
        Check.due("placed(14, 0)", full.placed(14, 0), BAD_INDEX);
    }

    private static void anotherLayout() {
        Check.sentence("Makes the best layout for a base the present layout.");
        PosterFitter x = fourteen(48, 36);
        x.take(1);
        x.clearWords();
        x.addWord(2, 1);
        Check.due("take(3)", x.take(3), 42 * 42);
        Check.layout(x, 3, 1, 1764, 0, 3);
        Check.placed(x, 0, 0, 6, 3, 0, 0);
        Check.due("placed(1, 0)", x.placed(1, 0), BAD_INDEX);
        Check.due("line(1, 0)", x.line(1, 0), BAD_INDEX);
        Check.due("undo()", x.undo(), 3);
        Check.layout(x, 1, 1, 441, 1, 1);
        Check.placed(x, 13, 26, 1, 1, 0, 1);
    }

    private static void noGapNoChain() {
        Check.sentence("3 the length of its longest chain (0 if there are no gaps)");
        PosterFitter x = Check.poster(3, 36);
        Check.words(x, 3, 2, 3);
        Check.due("take(1)", x.take(1), 1);
        Check.due("no gaps", x.layout(3), 0);
        Check.due("the first word of a line", x.placed(1, 4), 0);
        x.setWord(2, 1, 1, false);
        Check.due("take(1)", x.take(1), 5);
        Check.due("still no gaps", x.layout(3), 0);
        x.setWord(1, 1, 1, false);
        Check.due("take(1)", x.take(1), 0);
        Check.due("a gap", x.layout(3), 1);
        Check.due("the gap before word 2", x.placed(2, 4), 1);
        Check.due("take(12)", x.take(12), NONE);
    }
}

/** Promises 20 to 22: layout, line, placed. */
public final class LayoutTest {
    private static final int MIN = Integer.MIN_VALUE, MAX = Integer.MAX_VALUE;

    public static void main(String[] args) {
        withoutLayout();
        wrongArguments();
        numbers();
        alignments();
        gaps();
        chainLengths();
        chainsThatBranch();
        layoutStays();
        Check.end();
    }

    private static void withoutLayout() {
        PosterFitter x = Check.poster(10, 10);
        Check.words(x, 1);
        Check.due("layout(0)", x.layout(0), -4);
        Check.due("layout(4)", x.layout(4), -4);
        Check.due("layout(5)", x.layout(5), -3);
        Check.due("layout(-1)", x.layout(-1), -3);
        Check.due("line(0, 0)", x.line(0, 0), -4);
        Check.due("line(-1, 0)", x.line(-1, 0), -4);
        Check.due("line(0, 7)", x.line(0, 7), -4);
        Check.due("placed(0, 0)", x.placed(0, 0), -4);
        Check.due("placed(-1, 0)", x.placed(-1, 0), -4);
        Check.due("placed(0, 5)", x.placed(0, 5), -4);
    }

    private static void wrongArguments() {
        PosterFitter x = Check.poster(3, 10);
        Check.words(x, 1, 1, 1);
        x.take(1);
        Check.due("layout(1)", x.layout(1), 2);
        for (int bad : new int[] {-1, MIN, MAX}) {
            Check.due("layout(" + bad + ")", x.layout(bad), -3);
            Check.due("line(" + bad + ", 0)", x.line(bad, 0), -2);
            Check.due("line(0, " + bad + ")", x.line(0, bad), -3);
            Check.due("line(" + bad + ", " + bad + ")", x.line(bad, bad), -2);
            Check.due("placed(" + bad + ", 0)", x.placed(bad, 0), -2);
            Check.due("placed(0, " + bad + ")", x.placed(0, bad), -3);
            Check.due("placed(" + bad + ", " + bad + ")", x.placed(bad, bad), -2);
        }
        Check.due("layout(5)", x.layout(5), -3);
        Check.due("line(2, 7)", x.line(2, 7), -2);
        Check.due("line(1, 7)", x.line(1, 7), -3);
        Check.due("placed(3, 5)", x.placed(3, 5), -2);
        Check.due("placed(2, 5)", x.placed(2, 5), -3);
    }

    /** Sizes 2, 5 and 8: "aa bbb!" above "c!! dd", in a hall that gets narrower below. */
    private static PosterFitter twoLines(int alignment) {
        PosterFitter x = new PosterFitter();
        x.addShape(0, 3, 2, 28, 30);
        x.addShape(0, 3, 9, 10, 30);
        x.setSizes(3, 1, 1, 1);
        x.setLines(2, 2, alignment, 9);
        x.addWord(2, 1);
        x.addWord(3, 2);
        x.addWord(1, 3);
        x.addWord(2, 1);
        x.setWord(2, 1, 3, true);
        Check.due("take(2)", x.take(2), 5 * 5 + 4 * 4);
        return x;
    }

    private static void numbers() {
        PosterFitter x = twoLines(1);
        Check.layout(x, 2, 2, 41, 1, 17);
        Check.line(x, 0, 0, 2, 2, 5, 21, 3, 5);
        Check.line(x, 1, 2, 2, 9, 8, 14, 11, 4);
        Check.placed(x, 0, 5, 4, 2, 0, 0);
        Check.placed(x, 1, 11, 15, 5, 0, 1);
        Check.placed(x, 2, 13, 8, 8, 1, 0);
        Check.placed(x, 3, 23, 4, 2, 1, 1);
    }

    private static void alignments() {
        PosterFitter left = twoLines(0);
        Check.placed(left, 0, 3);
        Check.placed(left, 1, 9);
        Check.placed(left, 2, 11);
        Check.placed(left, 3, 21);
        PosterFitter right = twoLines(2);
        Check.placed(right, 0, 8);
        Check.placed(right, 1, 14);
        Check.placed(right, 2, 15);
        Check.placed(right, 3, 25);
        Check.line(right, 0, 0, 2, 2, 5, 21, 3, 5);
    }

    private static void gaps() {
        PosterFitter x = Check.poster(4, 4);
        Check.words(x, 4);
        x.take(0);
        Check.layout(x, 1, 1, 0, 0, 1);
        PosterFitter whole = Check.poster(48, 36);
        whole.setLines(24, 0, 0, 9);
        Check.words(whole, 4);
        whole.take(12);
        Check.layout(whole, 12, 1, 0, 0, 36);
    }

    /** Lines of two, two, one, two, and two words, all gaps in the same column. */
    private static void chainLengths() {
        PosterFitter x = Check.poster(3, 36);
        Check.words(x, 1, 1, 1, 1, 3, 1, 1, 1, 1, 1, 1);
        Check.due("take(1)", x.take(1), 0);
        Check.layout(x, 1, 6, 0, 3, 6);
        int[] chains = {0, 2, 0, 2, 0, 0, 3, 0, 3, 0, 3};
        for (int word = 0; word < chains.length; word++) {
            Check.due("placed(" + word + ", 4)", x.placed(word, 4), chains[word]);
        }
    }

    /**
     * Under "a a a" stands "aaa a", under it "a aaa", and under it again "a a a": the middle lines' gaps
     * don't touch, so that each of them has a chain of two with another gap of the outer lines.
     */
    private static void chainsThatBranch() {
        PosterFitter x = Check.poster(5, 36);
        Check.words(x, 1, 1, 1, 3, 1, 1, 3, 1, 1, 1);
        Check.due("take(1)", x.take(1), 0);
        Check.layout(x, 1, 4, 0, 2, 4);
        int[] chains = {0, 1, 2, 0, 2, 0, 2, 0, 2, 1};
        for (int word = 0; word < chains.length; word++) {
            Check.due("placed(" + word + ", 4)", x.placed(word, 4), chains[word]);
        }
        // A wide gap above touches both gaps below it, one of which goes on.
        PosterFitter wide = Check.poster(9, 36);
        wide.addWord(1, 3);
        wide.addWord(1, 3);
        Check.words(wide, 3, 1, 3, 5, 3);
        Check.due("take(1)", wide.take(1), 0);
        int[] wideChains = {0, 3, 0, 2, 3, 0, 3};
        for (int word = 0; word < wideChains.length; word++) {
            Check.due("placed(" + word + ", 4) below a wide gap", wide.placed(word, 4), wideChains[word]);
        }
    }

    /** All that is told of the two lines and four words. */
    private static long told(PosterFitter x) {
        long h = 0;
        for (int what = 0; what < 5; what++) {
            h = 31 * h + x.layout(what);
        }
        for (int line = 0; line <= 2; line++) {
            for (int what = 0; what < 7; what++) {
                h = 31 * h + x.line(line, what);
            }
        }
        for (int word = 0; word <= 4; word++) {
            for (int what = 0; what < 5; what++) {
                h = 31 * h + x.placed(word, what);
            }
        }
        return h;
    }

    private static void layoutStays() {
        PosterFitter x = twoLines(1);
        long before = told(x);
        x.setWord(0, 12, 3, true);
        Check.due("setWord leaves the layout", told(x), before);
        x.clearWords();
        Check.due("clearWords leaves the layout", told(x), before);
        Check.due("count(11)", x.count(11), 1);
        x.moveShape(1, 5, 0);
        x.removeShape(0);
        Check.due("shapes leave the layout", told(x), before);
        x.setSizes(0, 20, 20, 20);
        x.setLines(0, 0, 0, 1);
        Check.due("settings leave the layout", told(x), before);
        Check.due("cost(1)", x.cost(1), -1);
        x.fit();
        x.addShape(0, 0, 0, 20, 20);
        x.addWord(3, 3);
        x.cost(1);
        x.allowed(1);
        Check.due("searches leave the layout", told(x), before);
        Check.type(x, "a b");
        x.load();
        Check.due("load leaves the layout", told(x), before);
        Check.due("take(1) without a layout", x.take(1), -1);
        Check.due("take of none leaves the layout", told(x), before);
        Check.due("placed(3, 3)", x.placed(3, 3), 1);
        Check.due("placed(4, 3)", x.placed(4, 3), -2);
    }
}

/** The document's sentences on words and settings that name an edge; promises 1 and 7 to 13. */
public final class WordsEdgesTest {
    private static final int BAD_INDEX = -2, BAD_VALUE = -3, FULL = -5;

    public static void main(String[] args) {
        settingsAtFirst();
        addWordRanges();
        fourteenWords();
        appendedWithoutMark();
        setWordRanges();
        setWordValues();
        markOfWordZero();
        clearWords();
        setSizesRanges();
        setSizesValues();
        setLinesRanges();
        setLinesValues();
        countRanges();
        countsWithNothing();
        countsWithAllFull();
        wordRanges();
        Check.end();
    }

    private static PosterFitter two() {
        PosterFitter x = Check.poster(20, 20);
        x.addWord(1, 3);
        x.addWord(12, 1);
        return x;
    }

    private static PosterFitter fourteen() {
        PosterFitter x = new PosterFitter();
        for (int i = 0; i < 14; i++) {
            Check.due("addWord " + i, x.addWord(i % 12 + 1, i % 3 + 1), i);
        }
        return x;
    }

    private static void settingsAtFirst() {
        Check.sentence("with the settings that are described, without a present layout, and with an empty text");
        PosterFitter x = new PosterFitter();
        Check.counts(x, 0, 0, 0, 1, 1, 1, 1, 0, 1, 1, 9, 0, 0);
        Check.due("clearText()", x.clearText(), 0);
        Check.due("textFault()", x.textFault(), -1);
        Check.due("undo()", x.undo(), -4);
        Check.due("load()", x.load(), 0);
    }

    private static void addWordRanges() {
        Check.sentence("Returns the number of the word; BAD_VALUE if letters or weight is out of range; FULL if there are 14 words.");
        for (int bad : Check.outside(1, 12)) {
            Story.refused("addWord(" + bad + ", 1)", WordsEdgesTest::two, BAD_VALUE, x -> x.addWord(bad, 1));
            Story.refused("addWord(" + bad + ", 3) of none", PosterFitter::new, BAD_VALUE, x -> x.addWord(bad, 3));
        }
        for (int bad : Check.outside(1, 3)) {
            Story.refused("addWord(1, " + bad + ")", WordsEdgesTest::two, BAD_VALUE, x -> x.addWord(1, bad));
            Story.refused("addWord(12, " + bad + ") of none", PosterFitter::new, BAD_VALUE, x -> x.addWord(12, bad));
        }
        Check.sentence("A word has a number of letters, 1 to 12, a weight, 1 to 3, and a mark that tells whether a line must end before it");
        for (int letters = 1; letters <= 12; letters++) {
            for (int weight = 1; weight <= 3; weight++) {
                PosterFitter x = new PosterFitter();
                Check.due("addWord(" + letters + ", " + weight + ")", x.addWord(letters, weight), 0);
                Check.word(x, 0, letters, weight, 0);
            }
        }
    }

    private static void fourteenWords() {
        Check.sentence("There are at most 14 words, numbered from 0.");
        PosterFitter x = fourteen();
        Check.due("count(1)", x.count(1), 14);
        Check.word(x, 0, 1, 1, 0);
        Check.word(x, 11, 12, 3, 0);
        Check.word(x, 13, 2, 2, 0);
        Story.refused("addWord to 14", WordsEdgesTest::fourteen, FULL, y -> y.addWord(1, 1));
        Check.sentence("If several apply to a call, the first one in this order is returned");
        Story.refused("addWord(13, 1) to 14", WordsEdgesTest::fourteen, BAD_VALUE, y -> y.addWord(13, 1));
        Story.refused("addWord(1, 0) to 14", WordsEdgesTest::fourteen, BAD_VALUE, y -> y.addWord(1, 0));
        Check.sentence("There are at most 14 words, numbered from 0.");
        x.undo();
        Check.due("addWord to 13", x.addWord(7, 1), 13);
        Check.due("addWord to 14", x.addWord(7, 1), FULL);
        x.clearWords();
        Check.due("addWord to none", x.addWord(7, 1), 0);
    }

    private static void appendedWithoutMark() {
        Check.sentence("Appends a word, without a mark.");
        PosterFitter x = two();
        x.setWord(0, 1, 3, true);
        x.setWord(1, 12, 1, true);
        x.clearWords();
        x.addWord(5, 2);
        x.addWord(6, 3);
        Check.word(x, 0, 5, 2, 0);
        Check.word(x, 1, 6, 3, 0);
        x.setWord(1, 6, 3, true);
        x.undo();
        x.undo();
        Check.due("addWord after undo", x.addWord(7, 1), 1);
        Check.word(x, 1, 7, 1, 0);
        Check.type(x, "a/b/c");
        x.load();
        x.clearWords();
        Check.words(x, 2, 2, 2);
        Check.word(x, 1, 2, 1, 0);
        Check.word(x, 2, 2, 1, 0);
    }

    private static void setWordRanges() {
        Check.sentence("Returns its previous number of letters; BAD_INDEX if there is no such word; BAD_VALUE if letters or weight is out of range.");
        for (int bad : Check.outside(0, 1)) {
            Story.refused("setWord(" + bad + ", 1, 1)", WordsEdgesTest::two, BAD_INDEX, x -> x.setWord(bad, 1, 1, true));
            Story.refused("setWord(" + bad + ", 0, 1)", WordsEdgesTest::two, BAD_INDEX, x -> x.setWord(bad, 0, 1, true));
            Story.refused("setWord(" + bad + ", 1, 4)", WordsEdgesTest::two, BAD_INDEX, x -> x.setWord(bad, 1, 4, true));
        }
        for (int bad : Check.outside(1, 12)) {
            Story.refused("setWord(1, " + bad + ", 1)", WordsEdgesTest::two, BAD_VALUE, x -> x.setWord(1, bad, 1, true));
        }
        for (int bad : Check.outside(1, 3)) {
            Story.refused("setWord(0, 1, " + bad + ")", WordsEdgesTest::two, BAD_VALUE, x -> x.setWord(0, 1, bad, true));
        }
        for (int word : new int[] {Integer.MIN_VALUE, -1, 0, Integer.MAX_VALUE}) {
            Story.refused("setWord(" + word + ", 1, 1) of none", PosterFitter::new, BAD_INDEX, x -> x.setWord(word, 1, 1, true));
        }
        Story.refused("setWord(14, 1, 1) of 14", WordsEdgesTest::fourteen, BAD_INDEX, x -> x.setWord(14, 1, 1, true));
    }

    private static void setWordValues() {
        Check.sentence("Changes a word. Recorded.");
        PosterFitter x = fourteen();
        Check.due("setWord(13, 12, 3, true)", x.setWord(13, 12, 3, true), 2);
        Check.due("setWord(0, 12, 3, false)", x.setWord(0, 12, 3, false), 1);
        Check.due("setWord(0, 1, 1, true)", x.setWord(0, 1, 1, true), 12);
        Check.word(x, 13, 12, 3, 1);
        Check.word(x, 12, 1, 1, 0);
        Check.word(x, 0, 1, 1, 1);
        Check.word(x, 1, 2, 2, 0);
        Check.due("setWord(13, 1, 1, false)", x.setWord(13, 1, 1, false), 12);
        Check.word(x, 13, 1, 1, 0);
    }

    private static void markOfWordZero() {
        Check.sentence("(for word 0 the mark is kept, but does not matter)");
        PosterFitter x = two();
        int cost = x.cost(1);
        int allowed = x.allowed(1);
        Check.due("setWord(0, 1, 3, true)", x.setWord(0, 1, 3, true), 1);
        Check.due("the mark is kept", x.word(0, 2), 1);
        Check.due("cost(1)", x.cost(1), cost);
        Check.due("allowed(1)", x.allowed(1), allowed);
        PosterFitter one = Check.poster(5, 5);
        Check.words(one, 5);
        one.setWord(0, 5, 1, true);
        Check.due("a marked word alone", one.take(1), 0);
        Check.due("its only line", one.layout(1), 1);
    }

    private static void clearWords() {
        Check.sentence("Removes all words. Recorded. Returns how many there were.");
        PosterFitter none = new PosterFitter();
        Check.due("clearWords() of none", none.clearWords(), 0);
        Check.due("it is recorded", none.undo(), 0);
        PosterFitter x = fourteen();
        x.setSizes(2, 3, 4, 5);
        x.setLines(6, 2, 0, 8);
        Check.due("clearWords() of 14", x.clearWords(), 14);
        Check.counts(x, 0, 0, 0, 2, 3, 4, 5, 6, 2, 0, 8, 0, 0);
        Check.due("word(0, 0)", x.word(0, 0), BAD_INDEX);
        Check.due("clearWords() again", x.clearWords(), 0);
        Check.due("undo()", x.undo(), 3);
        Check.due("no words yet", x.count(1), 0);
        Check.due("undo()", x.undo(), 2);
        Check.due("all words again", x.count(1), 14);
        Check.word(x, 13, 2, 2, 0);
    }

    private static void setSizesRanges() {
        Check.sentence("Returns the previous step; BAD_VALUE if an argument is out of range.");
        for (int bad : Check.outside(0, 4)) {
            Story.refused("setSizes(" + bad + ", ..)", WordsEdgesTest::two, BAD_VALUE, x -> x.setSizes(bad, 2, 3, 4));
        }
        for (int bad : Check.outside(1, 20)) {
            Story.refused("setSizes(2, " + bad + ", ..)", WordsEdgesTest::two, BAD_VALUE, x -> x.setSizes(2, bad, 3, 4));
            Story.refused("setSizes(2, 2, " + bad + ", 4)", WordsEdgesTest::two, BAD_VALUE, x -> x.setSizes(2, 2, bad, 4));
            Story.refused("setSizes(2, 2, 3, " + bad + ")", WordsEdgesTest::two, BAD_VALUE, x -> x.setSizes(2, 2, 3, bad));
        }
    }

    private static void setSizesValues() {
        Check.sentence("Each weight has a least size, 1 to 20 (1 at first).");
        PosterFitter x = new PosterFitter();
        Check.due("the step at first", x.setSizes(4, 20, 1, 2), 1);
        Check.counts(x, 2, 4, 20, 1, 2, 0, 1, 1, 9);
        Check.due("the greatest step", x.setSizes(0, 1, 20, 3), 4);
        Check.counts(x, 2, 0, 1, 20, 3, 0, 1, 1, 9);
        Check.due("the least step", x.setSizes(0, 4, 5, 20), 0);
        Check.counts(x, 2, 0, 4, 5, 20, 0, 1, 1, 9);
        Check.due("the same again", x.setSizes(0, 4, 5, 20), 0);
        Check.due("it is recorded", x.undo(), 3);
        Check.counts(x, 2, 0, 4, 5, 20, 0, 1, 1, 9);
        x.setSizes(3, 20, 20, 20);
        Check.due("setSizes(1, 1, 1, 1)", x.setSizes(1, 1, 1, 1), 3);
        Check.counts(x, 2, 1, 1, 1, 1);
    }

    private static void setLinesRanges() {
        Check.sentence("Returns the previous top row; BAD_VALUE if an argument is out of range.");
        for (int bad : Check.outside(0, 35)) {
            Story.refused("setLines(" + bad + ", ..)", WordsEdgesTest::two, BAD_VALUE, x -> x.setLines(bad, 2, 2, 2));
        }
        for (int bad : Check.outside(0, 5)) {
            Story.refused("setLines(2, " + bad + ", ..)", WordsEdgesTest::two, BAD_VALUE, x -> x.setLines(2, bad, 2, 2));
        }
        for (int bad : Check.outside(0, 2)) {
            Story.refused("setLines(2, 2, " + bad + ", 2)", WordsEdgesTest::two, BAD_VALUE, x -> x.setLines(2, 2, bad, 2));
        }
        for (int bad : Check.outside(1, 9)) {
            Story.refused("setLines(2, 2, 2, " + bad + ")", WordsEdgesTest::two, BAD_VALUE, x -> x.setLines(2, 2, 2, bad));
        }
    }

    private static void setLinesValues() {
        Check.sentence("the top row (0 to 35; 0 at first)");
        PosterFitter x = new PosterFitter();
        Check.due("the top row at first", x.setLines(35, 0, 0, 1), 0);
        Check.counts(x, 2, 1, 1, 1, 1, 35, 0, 0, 1);
        Check.due("the greatest top row", x.setLines(0, 5, 2, 9), 35);
        Check.counts(x, 2, 1, 1, 1, 1, 0, 5, 2, 9);
        Check.due("the least top row", x.setLines(0, 5, 2, 9), 0);
        Check.due("it is recorded", x.undo(), 2);
        Check.counts(x, 2, 1, 1, 1, 1, 0, 5, 2, 9);
    }

    private static void countRanges() {
        Check.sentence("Returns the number; BAD_VALUE if what is out of range.");
        for (int bad : Check.outside(0, 11)) {
            Story.refused("count(" + bad + ")", WordsEdgesTest::two, BAD_VALUE, x -> x.count(bad));
            Check.due("count(" + bad + ") with nothing", new PosterFitter().count(bad), BAD_VALUE);
        }
        int[] counts = {1, 2, 1, 1, 1, 1, 0, 0, 0, 9, 400, 0};
        for (int what = 0; what < 12; what++) {
            int asked = what;
            Story.told("count(" + what + ")", WordsEdgesTest::two, counts[what], x -> x.count(asked));
        }
    }

    private static void countsWithNothing() {
        Check.sentence("0 shapes, 1 words, 2 the step");
        PosterFitter x = new PosterFitter();
        x.setSizes(0, 1, 1, 1);
        x.setLines(0, 0, 0, 1);
        Check.counts(x, 0, 0, 0, 0, 1, 1, 1, 0, 0, 0, 1, 0, 0);
    }

    private static void countsWithAllFull() {
        Check.sentence("10 free cells, 11: 1 if there is a present layout, else 0");
        PosterFitter x = fourteen();
        for (int i = 0; i < 5; i++) {
            x.addShape(0, 0, 0, 47, 35);
        }
        x.clearWords();
        x.addWord(1, 1);
        Check.due("take(1)", x.take(1) >= 0 ? 1 : 0, 1);
        x.addShape(0, 0, 0, 0, 0);
        for (int i = 1; i < 14; i++) {
            x.addWord(12, 3);
        }
        x.setSizes(4, 20, 20, 20);
        x.setLines(35, 5, 2, 9);
        Check.counts(x, 0, 6, 14, 4, 20, 20, 20, 35, 5, 2, 9, 1727, 1);
        Check.sentence("A cell is free if it belongs to an odd number of shapes.");
        x.removeShape(5);
        Check.due("all cells", x.count(10), 1728);
        x.removeShape(0);
        Check.due("no cell", x.count(10), 0);
    }

    private static void wordRanges() {
        Check.sentence("Returns the property; BAD_INDEX if there is no such word; BAD_VALUE if what is out of range.");
        for (int bad : Check.outside(0, 1)) {
            Story.refused("word(" + bad + ", 0)", WordsEdgesTest::two, BAD_INDEX, x -> x.word(bad, 0));
            Story.refused("word(" + bad + ", 2)", WordsEdgesTest::two, BAD_INDEX, x -> x.word(bad, 2));
            Story.refused("word(" + bad + ", 3)", WordsEdgesTest::two, BAD_INDEX, x -> x.word(bad, 3));
            Story.refused("word(" + bad + ", -1)", WordsEdgesTest::two, BAD_INDEX, x -> x.word(bad, -1));
        }
        for (int bad : Check.outside(0, 2)) {
            Story.refused("word(0, " + bad + ")", WordsEdgesTest::two, BAD_VALUE, x -> x.word(0, bad));
            Story.refused("word(1, " + bad + ")", WordsEdgesTest::two, BAD_VALUE, x -> x.word(1, bad));
            Story.refused("word(0, " + bad + ") of none", PosterFitter::new, BAD_INDEX, x -> x.word(0, bad));
        }
        Story.refused("word(14, 0) of 14", WordsEdgesTest::fourteen, BAD_INDEX, x -> x.word(14, 0));
        Story.told("word(1, 0)", WordsEdgesTest::two, 12, x -> x.word(1, 0));
        Story.told("word(0, 1)", WordsEdgesTest::two, 3, x -> x.word(0, 1));
        Story.told("word(0, 2)", WordsEdgesTest::two, 0, x -> x.word(0, 2));
    }
}

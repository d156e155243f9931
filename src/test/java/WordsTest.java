/** Promises 7 to 13: addWord, setWord, clearWords, setSizes, setLines, count, word. */
public final class WordsTest {
    private static final int MIN = Integer.MIN_VALUE, MAX = Integer.MAX_VALUE;

    public static void main(String[] args) {
        addWord();
        setWord();
        clearWords();
        setSizes();
        setLines();
        count();
        word();
        Check.end();
    }

    private static void addWord() {
        PosterFitter x = new PosterFitter();
        int[][] bad = {{0, 1}, {13, 1}, {-1, 1}, {1, 0}, {1, 4}, {1, -1}, {MIN, MAX}, {MAX, MIN}};
        for (int[] b : bad) {
            Check.due("addWord(" + b[0] + ", " + b[1] + ")", x.addWord(b[0], b[1]), -3);
        }
        Check.due("bad addWord is not recorded", x.undo(), -4);
        for (int i = 0; i < 14; i++) {
            Check.due("addWord " + i, x.addWord(i % 12 + 1, i % 3 + 1), i);
        }
        for (int i = 0; i < 14; i++) {
            Check.word(x, i, i % 12 + 1, i % 3 + 1, 0);
        }
        Check.due("addWord to 14", x.addWord(1, 1), -5);
        Check.due("bad addWord to 14", x.addWord(1, 4), -3);
        Check.due("count(1)", x.count(1), 14);
        Check.due("addWord is recorded", x.undo(), 3);
        Check.due("addWord is undone", x.count(1), 13);
        Check.due("addWord again", x.addWord(12, 3), 13);
        x.clearWords();
        x.load();
        x.addWord(5, 1);
        x.setWord(0, 5, 1, true);
        x.clearWords();
        x.addWord(4, 2);
        Check.word(x, 0, 4, 2, 0);
    }

    private static void setWord() {
        PosterFitter x = new PosterFitter();
        Check.due("setWord of none", x.setWord(0, 1, 1, true), -2);
        x.addWord(3, 2);
        x.addWord(7, 1);
        Check.due("setWord(1, ..)", x.setWord(1, 12, 3, true), 7);
        Check.word(x, 0, 3, 2, 0);
        Check.word(x, 1, 12, 3, 1);
        Check.due("setWord(0, ..)", x.setWord(0, 1, 1, true), 3);
        Check.word(x, 0, 1, 1, 1);
        Check.due("setWord(1, ..) again", x.setWord(1, 12, 3, false), 12);
        Check.word(x, 1, 12, 3, 0);
        Check.due("setWord(2, ..)", x.setWord(2, 1, 1, true), -2);
        Check.due("setWord(-1, 0, 0)", x.setWord(-1, 0, 0, true), -2);
        Check.due("setWord(MIN, ..)", x.setWord(MIN, 1, 1, true), -2);
        Check.due("setWord(0, 0, 1)", x.setWord(0, 0, 1, true), -3);
        Check.due("setWord(0, 13, 1)", x.setWord(0, 13, 1, true), -3);
        Check.due("setWord(0, 1, 0)", x.setWord(0, 1, 0, true), -3);
        Check.due("setWord(0, 1, 4)", x.setWord(0, 1, 4, true), -3);
        Check.word(x, 0, 1, 1, 1);
        Check.due("setWord is recorded", x.undo(), 3);
        Check.word(x, 1, 12, 3, 1);
        x.undo();
        Check.word(x, 0, 3, 2, 0);
    }

    private static void clearWords() {
        PosterFitter x = new PosterFitter();
        Check.due("clearWords() of none", x.clearWords(), 0);
        Check.due("clearWords() of none is recorded", x.undo(), 0);
        x.addWord(3, 2);
        x.addWord(7, 1);
        Check.due("clearWords()", x.clearWords(), 2);
        Check.due("count(1)", x.count(1), 0);
        Check.due("word(0, 0)", x.word(0, 0), -2);
        Check.due("undo()", x.undo(), 2);
        Check.word(x, 1, 7, 1, 0);
    }

    private static void setSizes() {
        PosterFitter x = new PosterFitter();
        Check.due("setSizes(4, 20, 1, 2)", x.setSizes(4, 20, 1, 2), 1);
        Check.counts(x, 2, 4, 20, 1, 2, 0, 1, 1, 9);
        Check.due("setSizes(0, 1, 20, 20)", x.setSizes(0, 1, 20, 20), 4);
        Check.counts(x, 2, 0, 1, 20, 20, 0, 1, 1, 9);
        int[][] bad = {{-1, 1, 1, 1}, {5, 1, 1, 1}, {1, 0, 1, 1}, {1, 21, 1, 1}, {1, 1, 0, 1}, {1, 1, 21, 1},
            {1, 1, 1, 0}, {1, 1, 1, 21}, {MIN, MAX, MIN, MAX}};
        for (int[] b : bad) {
            Check.due("setSizes" + java.util.Arrays.toString(b), x.setSizes(b[0], b[1], b[2], b[3]), -3);
        }
        Check.counts(x, 2, 0, 1, 20, 20);
        Check.due("setSizes is recorded", x.undo(), 1);
        Check.counts(x, 2, 4, 20, 1, 2);
    }

    private static void setLines() {
        PosterFitter x = new PosterFitter();
        Check.due("setLines(35, 5, 2, 1)", x.setLines(35, 5, 2, 1), 0);
        Check.counts(x, 2, 1, 1, 1, 1, 35, 5, 2, 1);
        Check.due("setLines(7, 0, 0, 9)", x.setLines(7, 0, 0, 9), 35);
        Check.counts(x, 2, 1, 1, 1, 1, 7, 0, 0, 9);
        int[][] bad = {{-1, 0, 0, 1}, {36, 0, 0, 1}, {0, -1, 0, 1}, {0, 6, 0, 1}, {0, 0, -1, 1}, {0, 0, 3, 1},
            {0, 0, 0, 0}, {0, 0, 0, 10}, {MAX, MIN, MAX, MIN}};
        for (int[] b : bad) {
            Check.due("setLines" + java.util.Arrays.toString(b), x.setLines(b[0], b[1], b[2], b[3]), -3);
        }
        Check.counts(x, 6, 7, 0, 0, 9);
        Check.due("setLines is recorded", x.undo(), 1);
        Check.counts(x, 6, 35, 5, 2, 1);
    }

    private static void count() {
        PosterFitter x = new PosterFitter();
        x.addShape(0, 1, 1, 4, 5);
        x.addShape(0, 1, 1, 1, 1);
        x.addWord(1, 1);
        x.setSizes(2, 3, 4, 5);
        x.setLines(6, 2, 0, 8);
        Check.counts(x, 0, 2, 1, 2, 3, 4, 5, 6, 2, 0, 8, 19, 0);
        x.setSizes(0, 1, 1, 1);
        x.setLines(2, 0, 0, 8);
        x.take(1);
        Check.counts(x, 10, 19, 1);
        Check.due("count(-1)", x.count(-1), -3);
        Check.due("count(12)", x.count(12), -3);
        Check.due("count(MIN)", x.count(MIN), -3);
        Check.due("count(MAX)", x.count(MAX), -3);
        x.undo();
        Check.counts(x, 10, 19, 0);
    }

    private static void word() {
        PosterFitter x = new PosterFitter();
        Check.due("word(0, 9) of none", x.word(0, 9), -2);
        x.addWord(3, 2);
        Check.word(x, 0, 3, 2, 0);
        Check.due("word(0, -1)", x.word(0, -1), -3);
        Check.due("word(0, 3)", x.word(0, 3), -3);
        Check.due("word(1, 0)", x.word(1, 0), -2);
        Check.due("word(-1, 3)", x.word(-1, 3), -2);
        Check.due("word(MAX, MAX)", x.word(MAX, MAX), -2);
    }
}

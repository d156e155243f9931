/** Compares answers with those that are due, and ends a test. */
final class Check {
    private static int wrong = 0;
    private static int looked = 0;
    private static String sentence = "";

    private Check() {
    }

    /** The document's words that the answers from here on belong to; they are told with each wrong one. */
    static void sentence(String words) {
        sentence = " [" + words + "]";
    }

    static void due(String what, long got, long want) {
        looked++;
        if (got != want) {
            wrong++;
            System.out.println(what + " answered " + got + ", due is " + want + sentence);
        }
    }

    static void same(String what, String got, String want) {
        looked++;
        if (!got.equals(want)) {
            wrong++;
            System.out.println(what + ": seen is " + got + ", due is " + want + sentence);
        }
    }

    static void holds(String what, boolean does) {
        due(what, does ? 1 : 0, 1);
    }

    /** The first columns of the first rows, a sign for each cell; no other cell may be free. */
    static void looks(String what, PosterFitter x, String... rows) {
        int free = 0;
        for (int y = 0; y < rows.length; y++) {
            for (int c = 0; c < rows[y].length(); c++) {
                int want = rows[y].charAt(c) == '#' ? 1 : 0;
                free += want;
                due(what + ": isFree(" + c + ", " + y + ")", x.isFree(c, y), want);
            }
        }
        due(what + ": count(10)", x.count(10), free);
    }

    /** Answers of count(), word(), layout(), line() or placed() from the first "what" on. */
    static void counts(PosterFitter x, int from, int... want) {
        for (int i = 0; i < want.length; i++) {
            due("count(" + (from + i) + ")", x.count(from + i), want[i]);
        }
    }

    static void word(PosterFitter x, int word, int... want) {
        for (int what = 0; what < want.length; what++) {
            due("word(" + word + ", " + what + ")", x.word(word, what), want[what]);
        }
    }

    static void layout(PosterFitter x, int... want) {
        for (int what = 0; what < want.length; what++) {
            due("layout(" + what + ")", x.layout(what), want[what]);
        }
    }

    static void line(PosterFitter x, int line, int... want) {
        for (int what = 0; what < want.length; what++) {
            due("line(" + line + ", " + what + ")", x.line(line, what), want[what]);
        }
    }

    static void placed(PosterFitter x, int word, int... want) {
        for (int what = 0; what < want.length; what++) {
            due("placed(" + word + ", " + what + ")", x.placed(word, what), want[what]);
        }
    }

    /** Types a text of single bytes. */
    static void type(PosterFitter poster, String text) {
        for (int i = 0; i < text.length(); i++) {
            poster.type(text.charAt(i));
        }
    }

    /** A poster with one rectangle from the upper left corner, and no rows between lines. */
    static PosterFitter poster(int columns, int rows) {
        PosterFitter poster = new PosterFitter();
        poster.addShape(0, 0, 0, columns - 1, rows - 1);
        poster.setLines(0, 0, 0, 9);
        return poster;
    }

    /** Adds words of the weight 1. */
    static void words(PosterFitter poster, int... letters) {
        for (int n : letters) {
            poster.addWord(n, 1);
        }
    }

    /** Adds so many words of one letter and the weight 1. */
    static void letters(PosterFitter poster, int words) {
        for (int i = 0; i < words; i++) {
            poster.addWord(1, 1);
        }
    }

    /** What is just, and far, outside of a range. */
    static int[] outside(int least, int greatest) {
        return new int[] {Integer.MIN_VALUE, Integer.MIN_VALUE + 1, least - 1, greatest + 1,
            Integer.MAX_VALUE - 1, Integer.MAX_VALUE};
    }

    static void end() {
        System.out.println(looked + " answers looked at, " + wrong + " wrong");
        if (wrong != 0 || looked == 0) {
            System.exit(1);
        }
    }
}

/** Compares answers with those that are due, and ends a test. */
final class Check {
    private static int wrong = 0;
    private static int looked = 0;

    private Check() {
    }

    static void due(String what, long got, long want) {
        looked++;
        if (got != want) {
            wrong++;
            System.out.println(what + " answered " + got + ", due is " + want);
        }
    }

    static void holds(String what, boolean does) {
        due(what, does ? 1 : 0, 1);
    }

    /** Types a text of single bytes. */
    static void type(PosterFitter poster, String text) {
        for (int i = 0; i < text.length(); i++) {
            poster.type(text.charAt(i));
        }
    }

    /** A poster with one rectangle from the upper left corner, and no rows between lines. */
    static PosterFitter poster(int columns, int rows) {
        PosterFitter poster = new PosterFitter();
        poster.addShape(0, 0, 0, columns - 1, rows - 1);
        poster.setLines(0, 0, 0, 9);
        return poster;
    }

    /** Adds words of the weight 1. */
    static void words(PosterFitter poster, int... letters) {
        for (int n : letters) {
            poster.addWord(n, 1);
        }
    }

    static void end() {
        System.out.println(looked + " answers looked at, " + wrong + " wrong");
        if (wrong != 0 || looked == 0) {
            System.exit(1);
        }
    }
}

import java.util.function.ToLongFunction;

/**
 * Each method with all combinations of the values at, just outside and far outside of the edges of its
 * arguments, on posters with nothing, with something, and with all full, each answer compared with the model's.
 */
public final class ExtremeArgumentsTest {
    private static final int MIN = Integer.MIN_VALUE, MAX = Integer.MAX_VALUE;
    private static final int[] COLUMNS = {MIN, -1, 0, 9, 47, 48, MAX};
    private static final int[] ROWS = {MIN, -1, 0, 9, 35, 36, MAX};
    private static final int[] SHIFTS = {MIN, MIN + 1, -48, -47, -36, -35, -1, 0, 1, 35, 36, 47, 48, MAX - 1, MAX};
    private static final int[] SMALL = {MIN, -1, 0, 1, 2, 3, 4, 5, 6, 7, 8, 9, 10, 11, 12, 13, 14, 15, MAX};
    /** A poster is made anew behind so many tries, so that none gets more than 512 calls. */
    private static final int TRIES = 100;

    private final int kind;
    private PosterFitter x;
    private PosterModel model;
    private int tries = 0;

    private ExtremeArgumentsTest(int kind) {
        this.kind = kind;
        make();
    }

    public static void main(String[] args) {
        for (int kind = 0; kind < 3; kind++) {
            ExtremeArgumentsTest test = new ExtremeArgumentsTest(kind);
            test.shapes();
            test.spans();
            test.words();
            test.settings();
            test.fitting();
            test.present();
            test.text();
        }
        Check.end();
    }

    private void make() {
        x = new PosterFitter();
        model = new PosterModel();
        if (kind == 1) {
            makeSome();
        } else if (kind == 2) {
            makeFull();
        }
        both("digest()", x.digest(), model.digest());
    }

    private void both(String what, long got, long want) {
        Check.due("poster " + kind + ": " + what, got, want);
    }

    private void makeSome() {
        both("addShape", x.addShape(0, 0, 0, 30, 30), model.addShape(0, 0, 0, 30, 30));
        both("addShape", x.addShape(2, 9, 9, 20, 20), model.addShape(2, 9, 9, 20, 20));
        both("setLines", x.setLines(0, 0, 1, 2), model.setLines(0, 0, 1, 2));
        for (int i = 0; i < 5; i++) {
            both("addWord", x.addWord(i + 1, i % 3 + 1), model.addWord(i + 1, i % 3 + 1));
        }
        both("take(1)", x.take(1), model.take(1));
        type("ab/");
    }

    private void makeFull() {
        for (int i = 0; i < 6; i++) {
            both("addShape", x.addShape(i % 4, i, 0, 47 - i, 35), model.addShape(i % 4, i, 0, 47 - i, 35));
        }
        both("moveShape", x.moveShape(5, -5, 0), model.moveShape(5, -5, 0));
        both("removeShape", x.removeShape(5), model.removeShape(5));
        both("addShape", x.addShape(0, 0, 0, 0, 0), model.addShape(0, 0, 0, 0, 0));
        for (int i = 0; i < 14; i++) {
            both("addWord", x.addWord(1, 1), model.addWord(1, 1));
        }
        both("setWord", x.setWord(7, 2, 1, true), model.setWord(7, 2, 1, true));
        both("setLines", x.setLines(3, 1, 0, 9), model.setLines(3, 1, 0, 9));
        both("take(1)", x.take(1), model.take(1));
        type("a! b " + " ".repeat(75));
    }

    private void type(String text) {
        for (int i = 0; i < text.length(); i++) {
            both("type", x.type(text.charAt(i)), model.type(text.charAt(i)));
        }
    }

    /** Compares the answers of both, and takes a call back that has changed something. */
    private void same(String what, ToLongFunction<PosterFitter> call, ToLongFunction<PosterModel> modelCall,
            boolean recorded) {
        if (++tries % TRIES == 0) {
            make();
        }
        long got = call.applyAsLong(x);
        both(what, got, modelCall.applyAsLong(model));
        if (recorded && got >= PosterFitter.NONE) {
            both("digest() behind " + what, x.digest(), model.digest());
            both("undo() behind " + what, x.undo(), model.undo());
        }
        if (recorded && tries % 7 == 0) {
            both("digest() behind " + what, x.digest(), model.digest());
        }
    }

    private void shapes() {
        for (int k : new int[] {MIN, -1, 0, 1, 2, 3, 4, MAX}) {
            for (int a : COLUMNS) {
                for (int b : ROWS) {
                    boxes(k, a, b);
                }
            }
        }
        for (int s : new int[] {MIN, -1, 0, 1, 2, 5, 6, MAX}) {
            same("removeShape(" + s + ")", p -> p.removeShape(s), m -> m.removeShape(s), true);
            for (int a : SHIFTS) {
                for (int b : SHIFTS) {
                    same("moveShape(" + s + ", " + a + ", " + b + ")", p -> p.moveShape(s, a, b),
                            m -> m.moveShape(s, a, b), true);
                }
            }
        }
    }

    private void boxes(int k, int x1, int y1) {
        for (int x2 : COLUMNS) {
            for (int y2 : ROWS) {
                same("addShape(" + k + ", " + x1 + ", " + y1 + ", " + x2 + ", " + y2 + ")",
                        p -> p.addShape(k, x1, y1, x2, y2), m -> m.addShape(k, x1, y1, x2, y2), true);
            }
        }
    }

    private void spans() {
        int[] edges = {MIN, MIN + 1, -36, -1, 0, 1, 2, 17, 18, 19, 34, 35, 36, 37, MAX - 36, MAX - 1, MAX};
        for (int a : edges) {
            for (int b : edges) {
                same("isFree(" + a + ", " + b + ")", p -> p.isFree(a, b), m -> m.isFree(a, b), false);
                for (int what : new int[] {MIN, -1, 0, 1, 2, MAX}) {
                    same("span(" + a + ", " + b + ", " + what + ")", p -> p.span(a, b, what), m -> m.span(a, b, what), false);
                }
            }
        }
        for (int a : new int[] {46, 47, 48, 49}) {
            for (int b : new int[] {34, 35, 36, 37}) {
                same("isFree(" + a + ", " + b + ")", p -> p.isFree(a, b), m -> m.isFree(a, b), false);
            }
        }
    }

    private void words() {
        int[] weights = {MIN, -1, 0, 1, 2, 3, 4, MAX};
        for (int n : SMALL) {
            for (int w : weights) {
                same("addWord(" + n + ", " + w + ")", p -> p.addWord(n, w), m -> m.addWord(n, w), true);
                same("word(" + n + ", " + w + ")", p -> p.word(n, w), m -> m.word(n, w), false);
                for (int i : new int[] {MIN, -1, 0, 4, 5, 13, 14, MAX}) {
                    same("setWord(" + i + ", " + n + ", " + w + ", true)", p -> p.setWord(i, n, w, true),
                            m -> m.setWord(i, n, w, true), true);
                }
            }
            same("count(" + n + ")", p -> p.count(n), m -> m.count(n), false);
        }
        same("clearWords()", p -> p.clearWords(), m -> m.clearWords(), true);
    }

    private void settings() {
        int[] sizes = {MIN, -1, 0, 1, 20, 21, MAX};
        int[] limits = {MIN, 0, 1, 9, 10, MAX};
        for (int a : new int[] {MIN, -1, 0, 4, 5, MAX}) {
            for (int b : sizes) {
                for (int c : sizes) {
                    for (int d : sizes) {
                        same("setSizes(" + a + ", " + b + ", " + c + ", " + d + ")", p -> p.setSizes(a, b, c, d),
                                m -> m.setSizes(a, b, c, d), true);
                    }
                }
            }
        }
        for (int a : ROWS) {
            for (int b : new int[] {MIN, -1, 0, 5, 6, MAX}) {
                for (int c : new int[] {MIN, -1, 0, 2, 3, MAX}) {
                    for (int d : limits) {
                        same("setLines(" + a + ", " + b + ", " + c + ", " + d + ")", p -> p.setLines(a, b, c, d),
                                m -> m.setLines(a, b, c, d), true);
                    }
                }
            }
        }
    }

    private void fitting() {
        for (int base : SMALL) {
            same("cost(" + base + ")", p -> p.cost(base), m -> m.cost(base), false);
            same("allowed(" + base + ")", p -> p.allowed(base), m -> m.allowed(base), false);
            same("widestStep(" + base + ")", p -> p.widestStep(base), m -> m.widestStep(base), false);
            same("take(" + base + ")", p -> p.take(base), m -> m.take(base), true);
        }
        same("fit()", p -> p.fit(), m -> m.fit(), false);
        same("tightestLimit()", p -> p.tightestLimit(), m -> m.tightestLimit(), false);
    }

    private void present() {
        for (int what : SMALL) {
            same("layout(" + what + ")", p -> p.layout(what), m -> m.layout(what), false);
            for (int i : SMALL) {
                same("line(" + i + ", " + what + ")", p -> p.line(i, what), m -> m.line(i, what), false);
                same("placed(" + i + ", " + what + ")", p -> p.placed(i, what), m -> m.placed(i, what), false);
            }
        }
    }

    private void text() {
        for (int code : new int[] {MIN, -1, 256, MAX, 0, 255, 'a', ' ', '!', '/'}) {
            same("type(" + code + ")", p -> p.type(code), m -> m.type(code), false);
            same("textFault()", p -> p.textFault(), m -> m.textFault(), false);
            same("load()", p -> p.load(), m -> m.load(), true);
        }
        same("clearText()", p -> p.clearText(), m -> m.clearText(), false);
        same("clearText()", p -> p.clearText(), m -> m.clearText(), false);
        same("load()", p -> p.load(), m -> m.load(), true);
        make();
        same("undo()", p -> p.undo(), m -> m.undo(), false);
    }
}

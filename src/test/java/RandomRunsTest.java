import java.util.Random;

/** All promises: runs of up to 512 calls with many kinds of arguments, each answer compared with the model's. */
public final class RandomRunsTest {
    private static final String SIGNS = "abcXYZ  !!//";
    /** The document's limit for an object's calls, and how many of them a step of a run makes at most. */
    private static final int MOST_CALLS = 512, CALLS_OF_A_STEP = 12;

    private final Random random;
    private final PosterFitter x = new PosterFitter();
    private final PosterModel model = new PosterModel();
    private final String name;
    private final StringBuilder calls = new StringBuilder();
    private boolean failed = false;
    private int made = 0;
    /** What the run is inclined to: at most so many words, with at most so many letters. */
    private final int words, letters;

    private RandomRunsTest(int seed) {
        random = new Random(seed);
        name = "run " + seed;
        words = 1 + random.nextInt(seed % 25 == 0 ? 14 : 8);
        letters = 1 + random.nextInt(random.nextBoolean() ? 3 : 12);
    }

    public static void main(String[] args) {
        int runs = args.length > 0 ? Integer.parseInt(args[0]) : 250;
        int from = args.length > 1 ? Integer.parseInt(args[1]) : 1;
        for (int seed = from; seed < from + runs; seed++) {
            new RandomRunsTest(seed).run(seed % 10 == 0 ? MOST_CALLS : 150);
            new RandomRunsTest(seed).fits();
        }
        Check.end();
    }

    private void same(String call, long got, long want) {
        made++;
        calls.append(call).append(" -> ").append(got).append('\n');
        Check.due(name + ": " + call, got, want);
        if (got != want && !failed) {
            failed = true;
            System.out.println(calls);
        }
    }

    /** Mostly from a to b, at times just outside, rarely far outside. */
    private int some(int a, int b) {
        int r = random.nextInt(200);
        if (r == 0) {
            return random.nextBoolean() ? Integer.MIN_VALUE : Integer.MAX_VALUE;
        }
        if (r <= 3) {
            return random.nextBoolean() ? a - 1 : b + 1;
        }
        return a + random.nextInt(Math.max(1, b - a + 1));
    }

    /** The last one of so many calls is digest(). */
    private void run(int most) {
        prepare();
        for (int i = 0; made < most - CALLS_OF_A_STEP && !failed; i++) {
            int r = random.nextInt(100);
            if (r < 14) {
                shapes();
            } else if (r < 36) {
                settings();
            } else if (r < 66) {
                fitting();
            } else if (r < 84) {
                present();
            } else if (r < 93) {
                text();
            } else {
                same("undo()", x.undo(), model.undo());
            }
            if (i % 10 == 0) {
                same("digest()", x.digest(), model.digest());
            }
        }
        while (made < most - 1) {
            same("count(10)", x.count(10), model.count(10));
        }
        same("digest()", x.digest(), model.digest());
    }

    /** Most runs begin with room and words, so that layouts are common. */
    private void prepare() {
        int kind = random.nextInt(4);
        int right = random.nextInt(3) == 0 ? 5 + random.nextInt(15) : 30 + random.nextInt(18);
        int bottom = 20 + random.nextInt(16);
        same("addShape", x.addShape(kind, 0, 0, right, bottom), model.addShape(kind, 0, 0, right, bottom));
        int top = kind == 0 ? 0 : 4 + random.nextInt(6);
        int limit = 1 + random.nextInt(3);
        same("setLines", x.setLines(top, 0, 1, limit), model.setLines(top, 0, 1, limit));
        for (int i = 0; i < words; i++) {
            addWord(1 + random.nextInt(letters), random.nextInt(4) == 0 ? 2 : 1);
        }
    }

    /** One poster with words of all weights, looked at with each alignment and small base. */
    private void fits() {
        prepare();
        for (int i = 0; i < words; i++) {
            int n = 1 + random.nextInt(letters), w = 1 + random.nextInt(3);
            boolean m = random.nextInt(8) == 0;
            same("setWord", x.setWord(i, n, w, m), model.setWord(i, n, w, m));
        }
        for (int i = 0; i < 3 && !failed; i++) {
            int top = random.nextInt(12), leading = random.nextInt(2), limit = 1 + random.nextInt(3), alignment = i;
            same("setLines(" + top + ", " + leading + ", " + alignment + ", " + limit + ")",
                    x.setLines(top, leading, alignment, limit), model.setLines(top, leading, alignment, limit));
            for (int base = 1; base <= 3; base++) {
                same("take(" + base + ")", x.take(base), model.take(base));
                same("allowed(" + base + ")", x.allowed(base), model.allowed(base));
                same("digest()", x.digest(), model.digest());
            }
        }
    }

    private void shapes() {
        switch (random.nextInt(6)) {
            case 0: {
                int k = some(0, 3), x1 = some(0, 47), y1 = some(0, 35), x2 = some(x1, 47), y2 = some(y1, 35);
                same("addShape(" + k + ", " + x1 + ", " + y1 + ", " + x2 + ", " + y2 + ")",
                        x.addShape(k, x1, y1, x2, y2), model.addShape(k, x1, y1, x2, y2));
                break;
            }
            case 1: {
                int s = some(0, 2), dx = some(-6, 6), dy = some(-4, 4);
                same("moveShape(" + s + ", " + dx + ", " + dy + ")", x.moveShape(s, dx, dy), model.moveShape(s, dx, dy));
                break;
            }
            case 2: {
                int s = some(1, 6);
                same("removeShape(" + s + ")", x.removeShape(s), model.removeShape(s));
                break;
            }
            case 3: {
                int c = some(0, 47), r = some(0, 35);
                same("isFree(" + c + ", " + r + ")", x.isFree(c, r), model.isFree(c, r));
                break;
            }
            default: {
                int row = some(0, 35), rows = some(1, 8), what = some(0, 1);
                same("span(" + row + ", " + rows + ", " + what + ")", x.span(row, rows, what), model.span(row, rows, what));
                break;
            }
        }
    }

    private void addWord(int n, int w) {
        same("addWord(" + n + ", " + w + ")", x.addWord(n, w), model.addWord(n, w));
    }

    private void settings() {
        switch (random.nextInt(14)) {
            case 0: case 1:
                if (model.count(1) <= words) {
                    addWord(some(1, letters), some(1, 3));
                }
                break;
            case 2: case 3: case 4: {
                int i = some(0, words - 1), n = some(1, letters), w = some(1, 3);
                boolean m = random.nextInt(3) == 0;
                same("setWord(" + i + ", " + n + ", " + w + ", " + m + ")", x.setWord(i, n, w, m), model.setWord(i, n, w, m));
                break;
            }
            case 5:
                if (random.nextInt(4) == 0) {
                    same("clearWords()", x.clearWords(), model.clearWords());
                }
                break;
            case 6: case 7: {
                int s = some(0, 4), a = some(1, 3), b = some(1, 5), c = some(1, random.nextInt(4) == 0 ? 20 : 6);
                same("setSizes(" + s + ", " + a + ", " + b + ", " + c + ")", x.setSizes(s, a, b, c), model.setSizes(s, a, b, c));
                break;
            }
            case 8: case 9: case 10: {
                int t = some(0, random.nextInt(5) == 0 ? 35 : 10), l = some(0, random.nextInt(3) == 0 ? 5 : 1);
                int a = some(0, 2), m = some(1, random.nextInt(3) == 0 ? 9 : 3);
                same("setLines(" + t + ", " + l + ", " + a + ", " + m + ")", x.setLines(t, l, a, m), model.setLines(t, l, a, m));
                break;
            }
            case 11: case 12: {
                int what = some(0, 11);
                same("count(" + what + ")", x.count(what), model.count(what));
                break;
            }
            default: {
                int i = some(0, words - 1), what = some(0, 2);
                same("word(" + i + ", " + what + ")", x.word(i, what), model.word(i, what));
                break;
            }
        }
    }

    private void fitting() {
        int base = some(1, random.nextInt(4) == 0 ? 12 : 3);
        switch (random.nextInt(9)) {
            case 0: same("cost(" + base + ")", x.cost(base), model.cost(base)); break;
            case 1: same("fit()", x.fit(), model.fit()); break;
            case 2: case 3: same("allowed(" + base + ")", x.allowed(base), model.allowed(base)); break;
            case 4: same("widestStep(" + base + ")", x.widestStep(base), model.widestStep(base)); break;
            case 5: same("tightestLimit()", x.tightestLimit(), model.tightestLimit()); break;
            default:
                base = random.nextInt(3) == 0 ? 0 : base;
                same("take(" + base + ")", x.take(base), model.take(base));
                break;
        }
    }

    private void present() {
        int i = some(0, words - 1);
        switch (random.nextInt(3)) {
            case 0: {
                int what = some(0, 4);
                same("layout(" + what + ")", x.layout(what), model.layout(what));
                break;
            }
            case 1: {
                int what = some(0, 6);
                same("line(" + i + ", " + what + ")", x.line(i, what), model.line(i, what));
                break;
            }
            default: {
                int what = some(0, 4);
                same("placed(" + i + ", " + what + ")", x.placed(i, what), model.placed(i, what));
                break;
            }
        }
    }

    private void text() {
        int r = random.nextInt(12);
        if (r < 8) {
            for (int n = random.nextInt(8); n > 0; n--) {
                int code = random.nextInt(60) == 0 ? some(0, 255) : SIGNS.charAt(random.nextInt(SIGNS.length()));
                same("type(" + code + ")", x.type(code), model.type(code));
            }
            same("textFault()", x.textFault(), model.textFault());
        } else if (r < 10) {
            same("clearText()", x.clearText(), model.clearText());
        } else {
            same("load()", x.load(), model.load());
        }
    }
}

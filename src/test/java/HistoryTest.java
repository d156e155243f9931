/** Promises 27 and 28: undo and digest, and which calls are recorded. */
public final class HistoryTest {
    public static void main(String[] args) {
        undo();
        oldestIsDropped();
        recordedCalls();
        undoRestoresAll();
        textIsApart();
        digestOfNew();
        digestOfLayout();
        Check.end();
    }

    private static void undo() {
        PosterFitter x = new PosterFitter();
        Check.due("undo() of none", x.undo(), -4);
        x.addWord(1, 1);
        x.addWord(2, 1);
        Check.due("undo()", x.undo(), 1);
        Check.due("count(1)", x.count(1), 1);
        Check.due("undo()", x.undo(), 0);
        Check.due("count(1)", x.count(1), 0);
        Check.due("undo() of none", x.undo(), -4);
        x.addWord(3, 1);
        Check.due("undo() is not undone", x.undo(), 0);
        Check.due("count(1)", x.count(1), 0);
    }

    private static void oldestIsDropped() {
        PosterFitter x = new PosterFitter();
        for (int i = 1; i <= 11; i++) {
            x.addWord(i, 1);
        }
        for (int left = 3; left >= 0; left--) {
            Check.due("undo()", x.undo(), left);
            Check.due("count(1)", x.count(1), 7 + left);
            Check.due("the last word", x.word(6 + left, 0), 7 + left);
        }
        Check.due("undo() of none", x.undo(), -4);
        x.addWord(9, 1);
        x.addWord(9, 2);
        Check.due("undo() after the history was full", x.undo(), 1);
        Check.due("undo()", x.undo(), 0);
        Check.due("count(1)", x.count(1), 7);
        Check.due("undo() of none", x.undo(), -4);
    }

    /** Each call is made on a poster with just one recorded call. */
    private static int recordedBy(int call) {
        PosterFitter x = new PosterFitter();
        Check.type(x, "a");
        x.load();
        switch (call) {
            case 0: x.addShape(0, 0, 0, 1, 1); break;
            case 1: x.clearWords(); break;
            case 2: x.addWord(1, 1); break;
            case 3: x.setWord(0, 1, 1, false); break;
            case 4: x.setSizes(1, 1, 1, 1); break;
            case 5: x.setLines(0, 1, 1, 9); break;
            case 6: x.take(0); break;
            case 7: x.take(12); break;
            case 8: x.load(); break;
            case 9: x.isFree(0, 0); break;
            case 10: x.span(0, 1, 0); break;
            case 11: x.count(0); break;
            case 12: x.word(0, 0); break;
            case 13: x.cost(1); break;
            case 14: x.fit(); break;
            case 15: x.allowed(1); break;
            case 16: x.widestStep(1); break;
            case 17: x.tightestLimit(); break;
            case 18: x.layout(0); break;
            case 19: x.line(0, 0); break;
            case 20: x.placed(0, 0); break;
            case 21: x.type(97); break;
            case 22: x.clearText(); break;
            case 23: x.textFault(); break;
            case 24: x.digest(); break;
            case 25: x.addShape(9, 0, 0, 1, 1); break;
            case 26: x.moveShape(0, 0, 0); break;
            case 27: x.removeShape(0); break;
            case 28: x.setWord(1, 1, 1, false); break;
            case 29: x.setSizes(9, 1, 1, 1); break;
            case 30: x.setLines(0, 9, 1, 9); break;
            case 31: x.take(13); break;
            default: x.addWord(0, 0); break;
        }
        return x.undo();
    }

    private static void recordedCalls() {
        for (int call = 0; call <= 32; call++) {
            Check.due("states left behind call " + call, recordedBy(call), call <= 8 ? 1 : 0);
        }
        PosterFitter x = new PosterFitter();
        x.addShape(0, 0, 0, 1, 1);
        x.moveShape(0, 0, 0);
        x.removeShape(0);
        Check.due("moveShape and removeShape are recorded", x.undo(), 2);
    }

    private static PosterFitter rich() {
        PosterFitter x = new PosterFitter();
        x.addShape(2, 1, 2, 40, 33);
        x.addShape(1, 12, 20, 28, 30);
        x.setSizes(2, 2, 3, 4);
        x.setLines(6, 2, 1, 3);
        x.addWord(4, 1);
        x.addWord(3, 2);
        x.addWord(5, 1);
        x.setWord(1, 3, 2, true);
        x.take(2);
        return x;
    }

    private static void undoRestoresAll() {
        PosterFitter x = rich();
        Check.due("there is a layout", x.count(11), 1);
        long[] digests = new long[4];
        int[] costs = new int[4];
        for (int i = 0; i < 4; i++) {
            digests[i] = x.digest();
            costs[i] = x.cost(2);
            switch (i) {
                case 0: x.moveShape(1, 1, 1); break;
                case 1: x.removeShape(0); break;
                case 2: x.clearWords(); break;
                default: x.setLines(0, 0, 0, 1); break;
            }
        }
        for (int i = 3; i >= 0; i--) {
            Check.due("undo()", x.undo(), i);
            Check.due("digest() after undo", x.digest(), digests[i]);
            Check.due("cost(2) after undo", x.cost(2), costs[i]);
        }
        Check.due("digest() after all", x.digest(), rich().digest());
        x.take(2);
        x.setSizes(0, 1, 1, 1);
        x.take(3);
        x.undo();
        Check.due("the layout before", x.layout(0), 2);
    }

    private static void textIsApart() {
        PosterFitter x = new PosterFitter();
        x.addWord(1, 1);
        Check.type(x, "abc");
        x.undo();
        Check.due("undo leaves the text", x.clearText(), 3);
        x.addWord(1, 1);
        Check.type(x, "a!!!");
        x.undo();
        Check.due("undo leaves the fault", x.textFault(), 3);
        long before = x.digest();
        x.clearText();
        Check.due("digest() is not of the text", x.digest(), before);
    }

    private static long add(long h, long v) {
        return 31 * h + v;
    }

    private static void digestOfNew() {
        long h = 23;
        int[] counts = {0, 0, 1, 1, 1, 1, 0, 1, 1, 9, 0, 0};
        for (int v : counts) {
            h = add(h, v);
        }
        for (int row = 0; row < 36; row++) {
            h = add(add(h, 0), -1);
        }
        Check.due("digest() of a new object", new PosterFitter().digest(), h);
    }

    private static void digestOfLayout() {
        PosterFitter x = rich();
        long h = 23;
        for (int what = 0; what <= 11; what++) {
            h = add(h, x.count(what));
        }
        for (int row = 0; row < 36; row++) {
            h = add(add(h, x.span(row, 1, 0)), x.span(row, 1, 1));
        }
        for (int word = 0; word < x.count(1); word++) {
            h = add(add(add(h, x.word(word, 0)), x.word(word, 1)), x.word(word, 2));
        }
        for (int what = 0; what < 5; what++) {
            h = add(h, x.layout(what));
        }
        for (int line = 0; line < x.layout(1); line++) {
            for (int what = 0; what < 7; what++) {
                h = add(h, x.line(line, what));
            }
        }
        for (int word = 0; word < 3; word++) {
            for (int what = 0; what < 5; what++) {
                h = add(h, x.placed(word, what));
            }
        }
        Check.due("digest() of a poster with a layout", x.digest(), h);
        long words = x.digest();
        x.clearWords();
        Check.holds("digest() without the words is another", x.digest() != words);
        Check.due("the layout's words stay", x.placed(2, 3), rich().placed(2, 3));
    }
}

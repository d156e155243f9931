import java.util.ArrayList;
import java.util.LinkedHashMap;
import java.util.List;
import java.util.Map;
import java.util.function.ToLongFunction;

/** The document's sentences on the history and the errors that name an edge; promises 27 and 28. */
public final class HistoryEdgesTest {
    private static final int NONE = -1, BAD_STATE = -4;

    public static void main(String[] args) {
        emptyHistory();
        undoOfOne();
        fourStates();
        oldestIsDropped();
        undoneStatesAreGone();
        undoIsNotRecorded();
        recordedCalls();
        recordedIfNothingChanges();
        refusedCallsAreNotRecorded();
        toldIsNotRecorded();
        wholeStateIsRestored();
        allButTheText();
        digestWithNothing();
        digestWithAllFull();
        digestOfParts();
        digestWrapsAround();
        lastOf512Calls();
        Check.end();
    }

    /** Three shapes, four words, a layout, a text of two words; so many calls are recorded as the history holds. */
    private static PosterFitter rich() {
        PosterFitter x = new PosterFitter();
        x.addShape(0, 1, 0, 40, 33);
        x.addShape(2, 12, 20, 28, 30);
        x.addShape(1, 30, 0, 39, 10);
        x.addWord(4, 1);
        x.addWord(3, 2);
        x.addWord(5, 1);
        x.addWord(1, 3);
        Check.type(x, "ab! c");
        Check.due("take(2)", x.take(2) >= 0 ? 1 : 0, 1);
        x.setSizes(2, 2, 3, 4);
        x.setLines(6, 2, 1, 3);
        x.setWord(1, 3, 2, true);
        return x;
    }

    /** The states of the history from the latest to the oldest one; the numbers of those left must fall to 0. */
    private static List<Long> states(String what, PosterFitter x, int number) {
        List<Long> digests = new ArrayList<>();
        for (int left = number - 1; left >= 0; left--) {
            Check.due("undo() behind " + what, x.undo(), left);
            digests.add(x.digest());
        }
        long last = x.digest();
        Check.due("undo() of none behind " + what, x.undo(), BAD_STATE);
        Check.due("it changes nothing behind " + what, x.digest(), last);
        return digests;
    }

    private static void emptyHistory() {
        Check.sentence("Returns the number of states that are left in it; BAD_STATE if it is empty.");
        Story.refused("undo() of a new object", PosterFitter::new, BAD_STATE, x -> x.undo());
        Story.refused("undo() twice of a new object", PosterFitter::new, BAD_STATE, x -> {
            x.undo();
            return x.undo();
        });
        PosterFitter x = new PosterFitter();
        Check.type(x, "a/b");
        Check.due("undo() behind type", x.undo(), BAD_STATE);
        Check.due("the text stays", x.textFault(), NONE);
        Check.due("the text stays", x.clearText(), 3);
    }

    private static void undoOfOne() {
        Check.sentence("undo() removes and restores the latest one.");
        PosterFitter x = new PosterFitter();
        x.addWord(3, 1);
        Check.due("undo() of one", x.undo(), 0);
        Check.due("restored", x.digest(), new PosterFitter().digest());
        Check.due("undo() of none", x.undo(), BAD_STATE);
        Check.due("still restored", x.digest(), new PosterFitter().digest());
        Check.due("a call behind it", x.addWord(2, 1), 0);
        Check.due("undo() of one", x.undo(), 0);
        Check.due("undo() of none", x.undo(), BAD_STATE);
    }

    private static void fourStates() {
        Check.sentence("A history of at most 4 states is kept.");
        for (int calls = 0; calls <= 14; calls++) {
            PosterFitter x = new PosterFitter();
            List<Long> want = new ArrayList<>();
            for (int i = 0; i < calls; i++) {
                want.add(0, x.digest());
                x.addWord(i % 12 + 1, 1);
            }
            int kept = Math.min(4, calls);
            Check.holds("the latest " + kept + " of " + calls,
                    states(calls + " calls", x, kept).equals(want.subList(0, kept)));
        }
    }

    private static void oldestIsDropped() {
        Check.sentence("when one more is recorded, the oldest one is dropped");
        PosterFitter x = new PosterFitter();
        for (int i = 0; i < 5; i++) {
            x.addShape(0, i, 0, i, i);
        }
        for (int left = 3; left >= 0; left--) {
            Check.due("undo()", x.undo(), left);
            Check.due("shapes", x.count(0), 1 + left);
        }
        Check.due("the state without shapes is dropped", x.undo(), BAD_STATE);
        Check.due("shapes", x.count(0), 1);
        for (int round = 0; round < 3; round++) {
            for (int i = 1; i <= 5; i++) {
                x.setSizes(i % 5, i, i, i);
            }
            Check.due("undo()", x.undo(), 3);
            Check.counts(x, 2, 4, 4, 4, 4);
            x.setLines(round, 0, 0, 1);
            Check.due("undo()", x.undo(), 3);
            Check.due("undo()", x.undo(), 2);
            Check.counts(x, 2, 3, 3, 3, 3);
            Check.due("undo()", x.undo(), 1);
            Check.due("undo()", x.undo(), 0);
            Check.counts(x, 2, 1, 1, 1, 1);
            Check.due("undo()", x.undo(), BAD_STATE);
        }
    }

    private static void undoneStatesAreGone() {
        Check.sentence("undo() removes and restores the latest one.");
        PosterFitter x = new PosterFitter();
        for (int i = 1; i <= 4; i++) {
            x.addWord(i, 1);
        }
        Check.due("undo()", x.undo(), 3);
        Check.due("undo()", x.undo(), 2);
        x.addWord(9, 2);
        Check.due("words", x.count(1), 3);
        Check.due("undo()", x.undo(), 2);
        Check.due("words", x.count(1), 2);
        Check.word(x, 1, 2, 1, 0);
        Check.due("undo()", x.undo(), 1);
        Check.due("words", x.count(1), 1);
        Check.due("undo()", x.undo(), 0);
        Check.due("words", x.count(1), 0);
        Check.due("undo()", x.undo(), BAD_STATE);
    }

    private static void undoIsNotRecorded() {
        Check.sentence("Removes and restores the latest state of the history.");
        PosterFitter x = rich();
        long[] digests = new long[3];
        for (int i = 0; i < 3; i++) {
            Check.due("undo()", x.undo(), 3 - i);
            digests[i] = x.digest();
        }
        Check.holds("each one goes further back", digests[0] != digests[1] && digests[1] != digests[2]);
    }

    /** Calls that change something. */
    private static Map<String, ToLongFunction<PosterFitter>> changes() {
        Map<String, ToLongFunction<PosterFitter>> calls = new LinkedHashMap<>();
        calls.put("addShape", x -> x.addShape(3, 0, 0, 47, 35));
        calls.put("moveShape", x -> x.moveShape(1, -1, 3));
        calls.put("removeShape", x -> x.removeShape(0));
        calls.put("addWord", x -> x.addWord(12, 3));
        calls.put("setWord", x -> x.setWord(3, 2, 2, true));
        calls.put("clearWords", x -> x.clearWords());
        calls.put("setSizes", x -> x.setSizes(0, 5, 6, 7));
        calls.put("setLines", x -> x.setLines(5, 0, 0, 1));
        calls.put("take", x -> x.take(3));
        calls.put("take(0)", x -> x.take(0));
        calls.put("load", x -> x.load());
        return calls;
    }

    /** Calls that are recorded, but change nothing of the state. */
    private static Map<String, ToLongFunction<PosterFitter>> idleCalls() {
        Map<String, ToLongFunction<PosterFitter>> calls = new LinkedHashMap<>();
        calls.put("moveShape by nothing", x -> x.moveShape(1, 0, 0));
        calls.put("setWord as it is", x -> x.setWord(1, 3, 2, true));
        calls.put("setSizes as they are", x -> x.setSizes(2, 2, 3, 4));
        calls.put("setLines as they are", x -> x.setLines(6, 2, 1, 3));
        calls.put("take of none", x -> x.take(12));
        return calls;
    }

    private static void recordedCalls() {
        Check.sentence("The methods that are said to be recorded record the whole state (all but the text) "
                + "before each call that returns no error");
        changes().forEach((what, call) -> {
            PosterFitter x = rich();
            long before = x.digest();
            Check.holds(what + " returns no error", call.applyAsLong(x) >= NONE);
            Check.holds(what + " changes something", x.digest() != before);
            Check.holds(what + " is recorded", states(what, x, 4).get(0) == before);
            recordedOnce(what, call);
        });
    }

    /** The call's state comes before the three latest ones of the poster without it. */
    private static void recordedOnce(String what, ToLongFunction<PosterFitter> call) {
        PosterFitter x = rich();
        List<Long> want = states("none", rich(), 4).subList(0, 3);
        call.applyAsLong(x);
        Check.holds(what + " is recorded once", states(what, x, 4).subList(1, 4).equals(want));
    }

    private static void recordedIfNothingChanges() {
        Check.sentence("even if it changes nothing");
        idleCalls().forEach((what, call) -> {
            PosterFitter x = rich();
            long before = x.digest();
            Check.holds(what + " returns no error", call.applyAsLong(x) >= NONE);
            Check.due(what + " changes nothing", x.digest(), before);
            Check.holds(what + " is recorded", states(what, x, 4).get(0) == before);
            recordedOnce(what, call);
        });
        PosterFitter x = new PosterFitter();
        x.clearWords();
        x.load();
        x.take(0);
        x.take(1);
        states("calls on nothing", x, 4);
        PosterFitter again = Check.poster(9, 9);
        Check.words(again, 3);
        again.take(1);
        again.take(1);
        Check.due("take of the same layout is recorded", again.undo(), 3);
        Check.due("the same layout", again.count(11), 1);
        Check.due("take of the layout is undone", again.undo(), 2);
        Check.due("no layout", again.count(11), 0);
    }

    private static void refusedCallsAreNotRecorded() {
        Check.sentence("A call that returns an error changes nothing.");
        Map<String, ToLongFunction<PosterFitter>> calls = new LinkedHashMap<>();
        calls.put("addShape", x -> x.addShape(4, 0, 0, 47, 35));
        calls.put("moveShape", x -> x.moveShape(0, 0, 9));
        calls.put("moveShape of none", x -> x.moveShape(3, 0, 0));
        calls.put("removeShape", x -> x.removeShape(3));
        calls.put("addWord", x -> x.addWord(13, 1));
        calls.put("setWord", x -> x.setWord(0, 1, 4, false));
        calls.put("setWord of none", x -> x.setWord(4, 1, 1, false));
        calls.put("setSizes", x -> x.setSizes(1, 1, 1, 21));
        calls.put("setLines", x -> x.setLines(0, 0, 0, 10));
        calls.put("take", x -> x.take(13));
        calls.forEach((what, call) -> {
            PosterFitter x = rich();
            Check.holds(what + " returns an error", call.applyAsLong(x) < NONE);
            Check.holds(what + " is not recorded", states(what, x, 4).equals(states("none", rich(), 4)));
        });
        PosterFitter x = rich();
        x.type('/');
        Check.due("load() with a fault", x.load(), BAD_STATE);
        Check.holds("load() is not recorded", states("load", x, 4).equals(states("none", rich(), 4)));
    }

    private static void toldIsNotRecorded() {
        Check.sentence("The methods that are said to be recorded");
        Map<String, ToLongFunction<PosterFitter>> calls = new LinkedHashMap<>();
        calls.put("isFree", x -> x.isFree(5, 5));
        calls.put("span", x -> x.span(5, 5, 1));
        calls.put("count", x -> x.count(10));
        calls.put("word", x -> x.word(0, 0));
        calls.put("cost", x -> x.cost(2));
        calls.put("fit", x -> x.fit());
        calls.put("allowed", x -> x.allowed(2));
        calls.put("widestStep", x -> x.widestStep(2));
        calls.put("tightestLimit", x -> x.tightestLimit());
        calls.put("layout", x -> x.layout(2));
        calls.put("line", x -> x.line(0, 4));
        calls.put("placed", x -> x.placed(0, 0));
        calls.put("type", x -> x.type(97));
        calls.put("clearText", x -> x.clearText());
        calls.put("textFault", x -> x.textFault());
        calls.put("digest", x -> x.digest());
        calls.forEach((what, call) -> {
            PosterFitter x = rich();
            call.applyAsLong(x);
            Check.due(what + " leaves the state", x.digest(), rich().digest());
            Check.holds(what + " is not recorded", states(what, x, 4).equals(states("none", rich(), 4)));
            PosterFitter y = new PosterFitter();
            call.applyAsLong(y);
            Check.due(what + " of nothing is not recorded", y.undo(), BAD_STATE);
        });
    }

    private static void wholeStateIsRestored() {
        Check.sentence("record the whole state (all but the text)");
        changes().forEach((what, call) -> {
            String seen = Story.behind(HistoryEdgesTest::fresh, x -> {
                call.applyAsLong(x);
                return x.undo();
            });
            Check.same("behind " + what + " and undo()", seen, Story.behind(HistoryEdgesTest::fresh, x -> 0));
        });
    }

    /** As rich(), but with room for one more in the history. */
    private static PosterFitter fresh() {
        PosterFitter x = rich();
        x.undo();
        return x;
    }

    private static void allButTheText() {
        Check.sentence("(all but the text)");
        PosterFitter x = new PosterFitter();
        x.addWord(1, 1);
        Check.type(x, repeated("a", 80));
        Check.due("undo()", x.undo(), 0);
        Check.due("the fault stays", x.textFault(), 12);
        Check.due("the text stays", x.clearText(), 80);
        x.addWord(1, 1);
        Check.due("undo()", x.undo(), 0);
        Check.due("the empty text stays", x.clearText(), 0);
        PosterFitter y = new PosterFitter();
        Check.type(y, "ab/c");
        y.load();
        y.clearText();
        y.undo();
        Check.due("load() is undone, but not clearText()", y.load(), 0);
        Check.sentence("Returns a hash.");
        long digest = y.digest();
        Check.type(y, "ab");
        Check.due("the text is not in the digest", y.digest(), digest);
        y.clearWords();
        Check.due("the history is not in the digest", y.digest(), digest);
    }

    private static String repeated(String part, int times) {
        return part.repeat(times);
    }

    /** The hash as the document tells it, of what the other methods answer. */
    private static long hash(PosterFitter x) {
        List<Integer> all = new ArrayList<>();
        for (int what = 0; what <= 11; what++) {
            all.add(x.count(what));
        }
        for (int row = 0; row < 36; row++) {
            all.add(x.span(row, 1, 0));
            all.add(x.span(row, 1, 1));
        }
        for (int word = 0; x.word(word, 0) >= 0; word++) {
            for (int what = 0; what <= 2; what++) {
                all.add(x.word(word, what));
            }
        }
        for (int what = 0; what <= 4 && x.count(11) == 1; what++) {
            all.add(x.layout(what));
        }
        for (int line = 0; line < x.layout(1); line++) {
            for (int what = 0; what <= 6; what++) {
                all.add(x.line(line, what));
            }
        }
        for (int word = 0; x.placed(word, 0) >= 0; word++) {
            for (int what = 0; what <= 4; what++) {
                all.add(x.placed(word, what));
            }
        }
        long h = 23;
        for (int v : all) {
            h = 31 * h + v;
        }
        return h;
    }

    private static void digestWithNothing() {
        Check.sentence("for each row, from the top, the length and the first column of the span of just this row, as for span()");
        PosterFitter x = new PosterFitter();
        Check.due("digest() of a new object", x.digest(), hash(x));
        long h = 23;
        for (int v : new int[] {0, 0, 1, 1, 1, 1, 0, 1, 1, 9, 0, 0}) {
            h = 31 * h + v;
        }
        for (int row = 0; row < 36; row++) {
            h = 31 * (31 * h) - 1;
        }
        Check.due("digest() of a new object", x.digest(), h);
        Story.told("digest()", PosterFitter::new, (int) h, y -> (int) y.digest());
    }

    private static void digestWithAllFull() {
        Check.sentence("if there is a present layout, layout() of 0 to 4, for each of its lines line() of 0 to 6, "
                + "and for each of its words placed() of 0 to 4");
        for (int columns = 1; columns <= 48; columns += 47) {
            PosterFitter x = Check.poster(columns, 36);
            Check.letters(x, 14);
            Check.due("take(1)", x.take(1), columns == 1 ? 0 : 441);
            for (int i = 0; i < 5; i++) {
                x.addShape(i % 4, i, i, 47, 35);
            }
            x.setSizes(4, 20, 20, 20);
            x.setLines(35, 5, 2, 9);
            x.setWord(0, 12, 3, true);
            x.setWord(13, 12, 3, true);
            Check.due("digest() of all full", x.digest(), hash(x));
        }
    }

    private static void digestOfParts() {
        Check.sentence("for each v of the following ints, in order, h becomes 31 * h + v (long arithmetic with overflow)");
        PosterFitter words = new PosterFitter();
        words.addWord(7, 2);
        Check.due("digest() of a word without a layout", words.digest(), hash(words));
        PosterFitter shapes = new PosterFitter();
        shapes.addShape(0, 47, 35, 47, 35);
        Check.due("digest() of the last cell", shapes.digest(), hash(shapes));
        PosterFitter layout = Check.poster(9, 9);
        Check.words(layout, 3, 4);
        layout.take(1);
        layout.clearWords();
        Check.due("digest() of a layout without words", layout.digest(), hash(layout));
        layout.removeShape(0);
        Check.due("digest() of a layout without shapes", layout.digest(), hash(layout));
        PosterFitter fewer = rich();
        fewer.clearWords();
        fewer.addWord(1, 1);
        Check.due("digest() of fewer words than the layout has", fewer.digest(), hash(fewer));
        Check.due("digest() of a rich poster", rich().digest(), hash(rich()));
    }

    private static void digestWrapsAround() {
        Check.sentence("(long arithmetic with overflow)");
        java.math.BigInteger h = java.math.BigInteger.valueOf(23);
        java.math.BigInteger k = java.math.BigInteger.valueOf(31);
        for (int v : new int[] {0, 0, 1, 1, 1, 1, 0, 1, 1, 9, 0, 0}) {
            h = h.multiply(k).add(java.math.BigInteger.valueOf(v));
        }
        for (int row = 0; row < 36; row++) {
            h = h.multiply(k).multiply(k).subtract(java.math.BigInteger.ONE);
        }
        Check.holds("the number is far above a long", h.bitLength() > 400);
        Check.due("digest()", new PosterFitter().digest(), h.longValue());
    }

    private static void lastOf512Calls() {
        Check.sentence("An object is used for at most 512 calls after it has been made");
        PosterFitter x = new PosterFitter();
        x.addShape(0, 0, 0, 47, 35);
        for (int i = 0; i < 14; i++) {
            x.addWord(i % 3 + 1, 1);
        }
        for (int call = 16; call <= 509; call++) {
            Check.holds("call " + call, call % 2 == 0 ? x.take(1) >= 0 : x.moveShape(0, 0, 0) == 1728);
        }
        Check.due("call 510", x.allowed(1) > 0 ? 1 : 0, 1);
        Check.due("call 511", x.undo(), 3);
        PosterFitter same = new PosterFitter();
        same.addShape(0, 0, 0, 47, 35);
        for (int i = 0; i < 14; i++) {
            same.addWord(i % 3 + 1, 1);
        }
        same.take(1);
        Check.due("call 512", x.digest(), same.digest());
    }
}

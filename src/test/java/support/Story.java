import java.util.function.Supplier;
import java.util.function.ToLongFunction;

/**
 * All that can be seen of a poster. Looking at the history, the text or the shapes uses them up, so that a
 * poster is made anew for each way of looking; no poster gets more than the document's 512 calls.
 */
final class Story {
    /** More than there can be of states or shapes. */
    private static final int MOST = 20;

    private Story() {
    }

    /** What is seen behind a call on such a poster. */
    static String behind(Supplier<PosterFitter> maker, ToLongFunction<PosterFitter> call) {
        return answers(made(maker, call)) + history(made(maker, call)) + text(made(maker, call))
                + shapes(made(maker, call));
    }

    /** Looks that a call answers with an error, and that all is as if it had not been made. */
    static void refused(String what, Supplier<PosterFitter> maker, int error, ToLongFunction<PosterFitter> call) {
        Check.due(what, call.applyAsLong(maker.get()), error);
        Check.same("behind " + what, behind(maker, call), behind(maker, x -> 0));
    }

    /** Looks that a call gives an answer, but changes nothing. */
    static void told(String what, Supplier<PosterFitter> maker, int answer, ToLongFunction<PosterFitter> call) {
        refused(what, maker, answer, call);
    }

    private static PosterFitter made(Supplier<PosterFitter> maker, ToLongFunction<PosterFitter> call) {
        PosterFitter x = maker.get();
        call.applyAsLong(x);
        return x;
    }

    private static String answers(PosterFitter x) {
        StringBuilder seen = new StringBuilder("digest ").append(x.digest()).append(", costs");
        for (int base = 1; base <= 12; base++) {
            seen.append(' ').append(x.cost(base));
        }
        return seen.append(", fit ").append(x.fit()).append(", limit ").append(x.tightestLimit()).toString();
    }

    /** The states from the latest to the oldest one. */
    static String history(PosterFitter x) {
        StringBuilder seen = new StringBuilder(", history");
        int left = x.undo();
        for (int i = 0; i < MOST && left >= 0; i++) {
            seen.append(' ').append(left).append(':').append(x.digest());
            left = x.undo();
        }
        return seen.toString();
    }

    private static String text(PosterFitter x) {
        StringBuilder seen = new StringBuilder(", text ").append(x.textFault()).append(' ').append(x.load());
        for (int word = 0; word < x.count(1); word++) {
            seen.append(' ').append(x.word(word, 0)).append(x.word(word, 1)).append(x.word(word, 2));
        }
        return seen.append(' ').append(x.clearText()).toString();
    }

    private static String shapes(PosterFitter x) {
        StringBuilder seen = new StringBuilder(", shapes");
        int left = x.removeShape(0);
        for (int i = 0; i < MOST && left >= 0; i++) {
            seen.append(' ').append(left).append(':').append(x.count(10)).append(':').append(x.digest());
            left = x.removeShape(0);
        }
        return seen.toString();
    }
}

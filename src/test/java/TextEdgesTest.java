/** The document's sentences on the text that name an edge; promises 23 to 26. */
public final class TextEdgesTest {
    private static final int NONE = -1, BAD_VALUE = -3, BAD_STATE = -4, FULL = -5;
    private static final String FOURTEEN = "a b c d e f g h i j k l m n";

    public static void main(String[] args) {
        typeRanges();
        eightyBytes();
        clearText();
        noWords();
        lettersOfAWord();
        shoutsOfAWord();
        blanks();
        betweenWords();
        slashes();
        fourteenWords();
        firstFault();
        otherBytes();
        endsTooEarly();
        loadOfNone();
        loadOfAllFull();
        loadWithAFault();
        textStays();
        Check.end();
    }

    private static PosterFitter typed(String text) {
        PosterFitter x = new PosterFitter();
        x.addWord(9, 3);
        Check.type(x, text);
        return x;
    }

    private static String repeated(String part, int times) {
        return part.repeat(times);
    }

    private static void fault(String text, int want) {
        Story.told("textFault() of \"" + text + "\"", () -> typed(text), want, x -> x.textFault());
        if (want != NONE) {
            Story.refused("load() of \"" + text + "\"", () -> typed(text), BAD_STATE, x -> x.load());
        }
    }

    /** The parts of the words that a text without a fault gives. */
    private static void words(String text, int... parts) {
        fault(text, NONE);
        PosterFitter x = typed(text);
        Check.due("load() of \"" + text + "\"", x.load(), parts.length / 3);
        Check.due("count(1)", x.count(1), parts.length / 3);
        for (int i = 0; i < parts.length; i++) {
            Check.due("word(" + i / 3 + ", " + i % 3 + ") of \"" + text + "\"", x.word(i / 3, i % 3), parts[i]);
        }
        Check.due("load() is recorded", x.undo(), 1);
        Check.word(x, 0, 9, 3, 0);
    }

    private static void typeRanges() {
        Check.sentence("Returns the length of the text then; BAD_VALUE if code is out of range; FULL if the text has 80 bytes.");
        for (int bad : Check.outside(0, 255)) {
            Story.refused("type(" + bad + ")", () -> typed("ab"), BAD_VALUE, x -> x.type(bad));
            Story.refused("type(" + bad + ") to none", PosterFitter::new, BAD_VALUE, x -> x.type(bad));
        }
        for (int code = 0; code <= 255; code++) {
            Check.due("type(" + code + ")", new PosterFitter().type(code), 1);
        }
    }

    private static void eightyBytes() {
        Check.sentence("Words can be given by a text of at most 80 bytes.");
        PosterFitter x = new PosterFitter();
        for (int length = 1; length <= 80; length++) {
            Check.due("type to " + (length - 1), x.type(' '), length);
        }
        Check.due("type to 80", x.type(' '), FULL);
        Story.refused("type to 80", () -> typed(repeated("a! ", 14) + repeated(" ", 38)), FULL, y -> y.type('b'));
        Story.refused("type of a fault to 80", () -> typed(repeated(" ", 80)), FULL, y -> y.type('!'));
        Check.due("type to 79", typed(repeated(" ", 79)).type('b'), 80);
        Check.sentence("If several apply to a call, the first one in this order is returned");
        for (int bad : Check.outside(0, 255)) {
            Story.refused("type(" + bad + ") to 80", () -> typed(repeated(" ", 80)), BAD_VALUE, y -> y.type(bad));
        }
        Check.sentence("Empties the text.");
        Check.due("clearText()", x.clearText(), 80);
        Check.due("type to none", x.type('a'), 1);
    }

    private static void clearText() {
        Check.sentence("Empties the text. Returns the length that it had.");
        PosterFitter x = new PosterFitter();
        Check.due("clearText() of none", x.clearText(), 0);
        for (int length : new int[] {1, 2, 79, 80}) {
            Check.type(x, repeated("?", length));
            Check.due("clearText() of " + length, x.clearText(), length);
            Check.due("clearText() of none", x.clearText(), 0);
            Check.due("textFault() of none", x.textFault(), NONE);
        }
        Check.due("it is not recorded", x.undo(), BAD_STATE);
    }

    private static void noWords() {
        Check.sentence("It is a sequence of words, perhaps none.");
        words("");
        words(" ");
        words(repeated(" ", 80));
    }

    private static void lettersOfAWord() {
        Check.sentence("A word consists of 1 to 12 letters (A to Z, a to z)");
        words("A", 1, 1, 0);
        words("Z", 1, 1, 0);
        words("a", 1, 1, 0);
        words("z", 1, 1, 0);
        for (int letters = 1; letters <= 12; letters++) {
            words(repeated("q", letters), letters, 1, 0);
        }
        Check.sentence("(also the 13th letter of a word");
        fault(repeated("q", 13), 12);
        fault(repeated("q", 80), 12);
        fault(" " + repeated("Q", 13), 13);
        fault("ab/" + repeated("q", 13) + "!", 15);
        words(repeated("q", 12) + " " + repeated("q", 12), 12, 1, 0, 12, 1, 0);
        words(repeated("q", 12) + "!! z", 12, 3, 0, 1, 1, 0);
    }

    private static void shoutsOfAWord() {
        Check.sentence("and up to two exclamation marks directly behind them, which belong to it; its weight is 1 plus their number");
        words("a", 1, 1, 0);
        words("a!", 1, 2, 0);
        words("a!!", 1, 3, 0);
        Check.sentence("a third exclamation mark");
        fault("a!!!", 3);
        fault("a!!!!", 3);
        fault("a! b!!!", 6);
        fault(repeated("q", 12) + "!!!", 14);
        Check.sentence("and up to two exclamation marks directly behind them");
        fault("!", 0);
        fault(" !", 1);
        fault("!a", 0);
        fault("a !", 2);
        fault("a! !", 3);
        fault("a!! !", 4);
        fault("a/!", 2);
        fault("a/ !", 3);
        words("a! b!! c", 1, 2, 0, 1, 3, 0, 1, 1, 0);
    }

    private static void blanks() {
        Check.sentence("Blanks (32) can stand anywhere except within a word");
        words(" a", 1, 1, 0);
        words("a ", 1, 1, 0);
        words("  a!  b  ", 1, 2, 0, 1, 1, 0);
        words("a / b", 1, 1, 0, 1, 1, 1);
        words("a  /  b!", 1, 1, 0, 1, 2, 1);
        words("a /b", 1, 1, 0, 1, 1, 1);
        words("a/ b", 1, 1, 0, 1, 1, 1);
        words("ab cd", 2, 1, 0, 2, 1, 0);
        words(repeated(" ", 79) + "a", 1, 1, 0);
    }

    private static void betweenWords() {
        Check.sentence("two words have at least one blank between them, or a slash (/), which marks the word behind it");
        fault("a!b", 2);
        fault("a!!b", 3);
        fault("ab! cd!e", 7);
        words("a b", 1, 1, 0, 1, 1, 0);
        words("a/b", 1, 1, 0, 1, 1, 1);
        words("a!/b!!/c", 1, 2, 0, 1, 3, 1, 1, 1, 1);
        words("a/b c", 1, 1, 0, 1, 1, 1, 1, 1, 0);
        words("a b/c", 1, 1, 0, 1, 1, 0, 1, 1, 1);
    }

    private static void slashes() {
        Check.sentence("A slash can only stand between two words, and only one between the same two.");
        fault("/", 0);
        fault("/a", 0);
        fault("  /a", 2);
        fault("a//b", 2);
        fault("a/ /b", 3);
        fault("a / / b", 4);
        fault("a!//b", 3);
        fault("a/b//c", 4);
        words("a/b/c", 1, 1, 0, 1, 1, 1, 1, 1, 1);
        words("a /b/ c", 1, 1, 0, 1, 1, 1, 1, 1, 1);
    }

    private static void fourteenWords() {
        Check.sentence("There are at most 14 words.");
        int[] parts = new int[42];
        for (int i = 0; i < 42; i++) {
            parts[i] = i % 3 == 2 ? 0 : 1;
        }
        words(FOURTEEN, parts);
        words(FOURTEEN + " ", parts);
        words(" " + FOURTEEN + repeated(" ", 52), parts);
        for (int i = 5; i < 42; i += 3) {
            parts[i] = 1;
        }
        words(FOURTEEN.replace(' ', '/'), parts);
        parts[40] = 3;
        parts[39] = 12;
        words(FOURTEEN.replace(' ', '/') + repeated("n", 11) + "!!", parts);
        Check.sentence("the first letter of a 15th word)");
        fault(FOURTEEN + " o", 28);
        fault(FOURTEEN + "  op", 29);
        fault(FOURTEEN + "/o", 28);
        fault(FOURTEEN + " / o", 30);
        fault(FOURTEEN + "! o", 29);
        fault(repeated("a ", 40), 28);
        fault(repeated("a/", 40), 28);
        fault(FOURTEEN + repeated("n", 12), 38);
        fault(FOURTEEN + "!!!", 29);
        Check.sentence("or the length of the text if it ends too early (behind a slash)");
        fault(FOURTEEN + "/", 28);
        fault(FOURTEEN + "/ ", 29);
        fault(FOURTEEN + "//", 28);
    }

    private static void firstFault() {
        Check.sentence("The fault of the text is the index, from 0, of the first byte that cannot stand at its place");
        fault("!", 0);
        fault("!!/1", 0);
        fault("a!!!/", 3);
        fault("1a/", 0);
        fault("a//", 2);
        fault("a1 " + repeated("q", 13), 1);
        fault(repeated("q", 13) + "1", 12);
        fault(repeated(" ", 79) + "!", 79);
        fault(repeated(" ", 79) + "1", 79);
        fault(repeated(" ", 78) + "!/", 78);
        fault(repeated("a!! ", 14) + "bcdefghijk", 56);
        PosterFitter x = typed("a");
        Check.due("no fault yet", x.textFault(), NONE);
        x.type('/');
        Check.due("behind a slash", x.textFault(), 2);
        x.type(' ');
        Check.due("behind a blank", x.textFault(), 3);
        x.type('b');
        Check.due("the fault is gone", x.textFault(), NONE);
        x.type('7');
        Check.due("a fault", x.textFault(), 4);
        x.type('b');
        Check.due("the fault stays", x.textFault(), 4);
        x.clearText();
        Check.due("no fault", x.textFault(), NONE);
    }

    private static void otherBytes() {
        Check.sentence("of the first byte that cannot stand at its place");
        int[] neighbours = {0, 1, 9, 10, 13, 31, 34, 46, 48, 57, 64, 91, 96, 123, 127, 128, 160, 161, 175, 193, 225, 255};
        for (int code : neighbours) {
            String sign = String.valueOf((char) code);
            fault(sign, 0);
            fault("ab" + sign, 2);
            fault("a!" + sign, 2);
            fault("a " + sign + " b", 2);
            fault("a/" + sign, 2);
            fault(FOURTEEN + sign, 27);
        }
    }

    private static void endsTooEarly() {
        Check.sentence("or the length of the text if it ends too early (behind a slash)");
        fault("a/", 2);
        fault("a /", 3);
        fault("a!!/", 4);
        fault("a/ ", 3);
        fault("a/" + repeated(" ", 78), 80);
        fault(repeated(" ", 78) + "a/", 80);
        fault(repeated(" ", 77) + "a/", 79);
        fault("a/b/", 4);
    }

    private static void loadOfNone() {
        Check.sentence("Replaces all words by those of the text.");
        PosterFitter x = typed("");
        Check.due("load() of no text", x.load(), 0);
        Check.due("no words", x.count(1), 0);
        Check.due("word(0, 0)", x.word(0, 0), -2);
        Check.due("load() again", x.load(), 0);
        Check.sentence("even if it changes nothing");
        Check.due("undo()", x.undo(), 2);
        Check.due("no words", x.count(1), 0);
        Check.due("undo()", x.undo(), 1);
        Check.due("the word again", x.count(1), 1);
        Check.due("load() of a new object", new PosterFitter().load(), 0);
    }

    private static void loadOfAllFull() {
        Check.sentence("Replaces all words by those of the text. The text stays. Recorded.");
        PosterFitter x = new PosterFitter();
        for (int i = 0; i < 14; i++) {
            x.addWord(12, 3);
            x.setWord(i, 12, 3, true);
        }
        Check.type(x, repeated("ab! ", 13) + "c" + repeated(" ", 27));
        Check.due("load() of 14 to 14", x.load(), 14);
        for (int i = 0; i < 13; i++) {
            Check.word(x, i, 2, 2, 0);
        }
        Check.word(x, 13, 1, 1, 0);
        Check.due("addWord to 14", x.addWord(1, 1), FULL);
        Check.due("load() again", x.load(), 14);
        Check.due("the text stays", x.clearText(), 80);
        Check.type(x, "z");
        Check.due("load() of one to 14", x.load(), 1);
        Check.word(x, 0, 1, 1, 0);
        Check.due("word(1, 0)", x.word(1, 0), -2);
        Check.due("addWord to one", x.addWord(3, 2), 1);
        Check.word(x, 1, 3, 2, 0);
    }

    private static PosterFitter full(String text) {
        PosterFitter x = Check.poster(48, 36);
        for (int i = 0; i < 14; i++) {
            x.addWord(i % 4 + 1, i % 2 + 1);
        }
        x.take(1);
        x.setSizes(0, 1, 1, 1);
        Check.type(x, text);
        return x;
    }

    private static void loadWithAFault() {
        Check.sentence("Returns how many words there are then; BAD_STATE if the text has a fault.");
        for (String text : new String[] {"!", "b/", "b c d!!!", repeated("q", 13), FOURTEEN + " o", repeated(" ", 79) + "?"}) {
            Story.refused("load() of \"" + text + "\"", () -> full(text), BAD_STATE, x -> x.load());
        }
    }

    private static void textStays() {
        Check.sentence("The text stays.");
        PosterFitter x = typed("ab! c");
        Check.due("load()", x.load(), 2);
        Check.due("type to it", x.type('d'), 6);
        Check.due("load()", x.load(), 2);
        Check.word(x, 1, 2, 1, 0);
        x.clearWords();
        Check.due("load() behind clearWords()", x.load(), 2);
        Check.sentence("The methods that are said to be recorded record the whole state (all but the text)");
        x.undo();
        x.undo();
        x.undo();
        x.undo();
        Check.due("the text behind undo()", x.clearText(), 6);
        x.load();
        x.undo();
        Check.due("an emptied text stays empty", x.clearText(), 0);
        Check.sentence("---- text, history");
        for (int call = 0; call < 3; call++) {
            PosterFitter y = typed("ab");
            int answer = call == 0 ? y.type('c') : call == 1 ? y.clearText() : y.textFault();
            Check.due("answer of call " + call, answer, call == 0 ? 3 : call == 1 ? 2 : NONE);
            Check.due("call " + call + " is not recorded", y.undo(), 0);
        }
    }
}

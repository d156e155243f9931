/** Promises 23 to 26: type, clearText, textFault, load. */
public final class TextTest {
    private static final int MIN = Integer.MIN_VALUE, MAX = Integer.MAX_VALUE;
    private static final String FOURTEEN = "a b c d e f g h i j k l m n";

    public static void main(String[] args) {
        typeAndClear();
        faults();
        everyByte();
        load();
        Check.end();
    }

    private static void typeAndClear() {
        PosterFitter x = new PosterFitter();
        for (int bad : new int[] {-1, 256, MIN, MAX}) {
            Check.due("type(" + bad + ")", x.type(bad), -3);
        }
        Check.due("clearText() of none", x.clearText(), 0);
        Check.due("type(0)", x.type(0), 1);
        Check.due("type(255)", x.type(255), 2);
        for (int i = 3; i <= 80; i++) {
            Check.due("type " + i, x.type(32), i);
        }
        Check.due("type to 80", x.type(32), -5);
        Check.due("bad type to 80", x.type(256), -3);
        Check.due("clearText()", x.clearText(), 80);
        Check.due("clearText() again", x.clearText(), 0);
        Check.due("type(97)", x.type(97), 1);
        Check.due("textFault()", x.textFault(), -1);
        Check.due("type is not recorded", x.undo(), -4);
    }

    private static void fault(String text, int want) {
        PosterFitter x = new PosterFitter();
        Check.type(x, text);
        Check.due("textFault() of \"" + text + "\"", x.textFault(), want);
        long before = x.digest();
        Check.due("load() of \"" + text + "\"", x.load() < 0 ? -4 : 0, want == -1 ? 0 : -4);
        if (want != -1) {
            Check.due("a load with a fault changes nothing", x.digest(), before);
            Check.due("a load with a fault is not recorded", x.undo(), -4);
        }
        Check.due("the text stays", x.clearText(), text.length());
    }

    private static void faults() {
        fault("", -1);
        fault("   ", -1);
        fault("AZaz", -1);
        fault(" a  b ", -1);
        fault("!", 0);
        fault(" !", 1);
        fault("a!!", -1);
        fault("a!!!", 3);
        fault("a! !", 3);
        fault("a !", 2);
        fault("a!b", 2);
        fault("a!!b", 3);
        fault("a! b", -1);
        fault("abcdefghijkl", -1);
        fault("abcdefghijklm", 12);
        fault("abcdefghijkl!!", -1);
        fault("ab abcdefghijklm", 15);
        fault("abcdefghijkl mnopqrstuvwx", -1);
        fault("/", 0);
        fault(" /a", 1);
        fault("a/", 2);
        fault("a/  ", 4);
        fault("a/b", -1);
        fault("a!/b", -1);
        fault("a / b", -1);
        fault("a//b", 2);
        fault("a/ /b", 3);
        fault("a / / b", 4);
        fault("a/b/c", -1);
        fault("a/!", 2);
        fault("a/b /", 5);
        fault("a1", 1);
        fault("a\n", 1);
        fault(FOURTEEN, -1);
        fault(FOURTEEN + "! ", -1);
        fault(FOURTEEN + " o", 28);
        fault(FOURTEEN + "o p", 29);
        fault(FOURTEEN + "/o", 28);
        fault(FOURTEEN + "/", 28);
        fault(FOURTEEN + " ?", 28);
        fault("                                                                               a", -1);
        fault("                                                                              a/", 80);
    }

    private static void everyByte() {
        for (int code = 0; code < 256; code++) {
            boolean isLetter = code >= 'A' && code <= 'Z' || code >= 'a' && code <= 'z';
            fault("" + (char) code, isLetter || code == ' ' ? -1 : 0);
            fault("x" + (char) code, isLetter || code == ' ' || code == '!' ? -1 : code == '/' ? 2 : 1);
        }
    }

    private static void loaded(String text, int... parts) {
        PosterFitter x = new PosterFitter();
        x.addWord(9, 3);
        x.setWord(0, 9, 3, true);
        Check.type(x, text);
        int words = parts.length / 3;
        Check.due("load() of \"" + text + "\"", x.load(), words);
        Check.due("count(1)", x.count(1), words);
        for (int i = 0; i < parts.length; i++) {
            Check.due("word(" + i / 3 + ", " + i % 3 + ") of \"" + text + "\"", x.word(i / 3, i % 3), parts[i]);
        }
        Check.due("word behind the last one", x.word(words, 0), -2);
        Check.due("load is recorded", x.undo(), 2);
        Check.due("load is undone", x.word(0, 0), 9);
        Check.due("load is undone", x.word(0, 2), 1);
        Check.due("the text stays", x.clearText(), text.length());
    }

    private static void load() {
        loaded("");
        loaded("  ");
        loaded("a", 1, 1, 0);
        loaded("Big! sale!!/of old hats", 3, 2, 0, 4, 3, 0, 2, 1, 1, 3, 1, 0, 4, 1, 0);
        loaded(" a / bb!  cc ", 1, 1, 0, 2, 2, 1, 2, 1, 0);
        loaded("abcdefghijkl!!/z", 12, 3, 0, 1, 1, 1);
        PosterFitter x = new PosterFitter();
        Check.type(x, FOURTEEN);
        Check.due("load() of fourteen words", x.load(), 14);
        Check.due("addWord to fourteen words", x.addWord(1, 1), -5);
        x.clearText();
        Check.due("the words stay", x.count(1), 14);
        Check.due("load() of none", x.load(), 0);
        Check.due("addWord", x.addWord(2, 1), 0);
        Check.due("addWord undone", x.undo(), 2);
        Check.due("load() of none is recorded", x.undo(), 1);
        Check.due("load() undone", x.count(1), 14);
        x.type('?');
        Check.due("load() with a fault", x.load(), -4);
        Check.due("the words stay", x.count(1), 14);
    }
}

import java.lang.reflect.Constructor;
import java.lang.reflect.Field;
import java.lang.reflect.Method;
import java.lang.reflect.Modifier;
import java.util.Arrays;
import java.util.TreeSet;

/** Promise 1, and the public face. */
public final class NewObjectTest {
    private static final int[] FIRST_COUNTS = {0, 0, 1, 1, 1, 1, 0, 1, 1, 9, 0, 0};

    private static final String[] FACE = {
        "int addShape(int,int,int,int,int)", "int moveShape(int,int,int)", "int removeShape(int)",
        "int isFree(int,int)", "int span(int,int,int)", "int addWord(int,int)",
        "int setWord(int,int,int,boolean)", "int clearWords()", "int setSizes(int,int,int,int)",
        "int setLines(int,int,int,int)", "int count(int)", "int word(int,int)", "int cost(int)", "int fit()",
        "int allowed(int)", "int take(int)", "int widestStep(int)", "int tightestLimit()", "int layout(int)",
        "int line(int,int)", "int placed(int,int)", "int type(int)", "int clearText()", "int textFault()",
        "int load()", "int undo()", "long digest()"};

    public static void main(String[] args) {
        newObject();
        objectsAreApart();
        constants();
        face();
        Check.end();
    }

    private static void newObject() {
        PosterFitter x = new PosterFitter();
        for (int what = 0; what < FIRST_COUNTS.length; what++) {
            Check.due("new count(" + what + ")", x.count(what), FIRST_COUNTS[what]);
        }
        Check.due("new word(0, 0)", x.word(0, 0), -2);
        Check.due("new removeShape(0)", x.removeShape(0), -2);
        Check.due("new layout(0)", x.layout(0), -4);
        Check.due("new fit()", x.fit(), -1);
        Check.due("new tightestLimit()", x.tightestLimit(), -1);
        Check.due("new widestStep(1)", x.widestStep(1), -1);
        Check.due("new allowed(1)", x.allowed(1), 0);
        Check.due("new textFault()", x.textFault(), -1);
        Check.due("new clearText()", x.clearText(), 0);
        Check.due("new undo()", x.undo(), -4);
    }

    private static void objectsAreApart() {
        PosterFitter x = new PosterFitter();
        PosterFitter y = new PosterFitter();
        x.addShape(0, 0, 0, 5, 5);
        x.addWord(1, 1);
        x.take(0);
        Check.type(x, "ab");
        Check.due("another object's digest()", y.digest(), new PosterFitter().digest());
        Check.due("another object's undo()", y.undo(), -4);
        Check.due("another object's clearText()", y.clearText(), 0);
    }

    private static void constants() {
        Check.due("NONE", PosterFitter.NONE, -1);
        Check.due("BAD_INDEX", PosterFitter.BAD_INDEX, -2);
        Check.due("BAD_VALUE", PosterFitter.BAD_VALUE, -3);
        Check.due("BAD_STATE", PosterFitter.BAD_STATE, -4);
        Check.due("FULL", PosterFitter.FULL, -5);
    }

    private static void face() {
        Class<?> c = PosterFitter.class;
        Check.holds("the class is public and final",
                Modifier.isPublic(c.getModifiers()) && Modifier.isFinal(c.getModifiers()));
        TreeSet<String> names = new TreeSet<>();
        TreeSet<String> seen = new TreeSet<>();
        for (Method m : c.getDeclaredMethods()) {
            if (Modifier.isPrivate(m.getModifiers())) {
                continue;
            }
            names.add(m.getName());
            seen.add(m.getReturnType() + " " + m.getName()
                    + Arrays.toString(m.getParameterTypes()).replace('[', '(').replace(']', ')').replace(" ", ""));
            Check.holds(m.getName() + " is public and no static one", m.getModifiers() == Modifier.PUBLIC);
        }
        Check.holds("the methods are those of the face: " + seen, seen.equals(new TreeSet<>(Arrays.asList(FACE))));
        noPrivateNamesake(c, names);
        for (Class<?> inside : c.getDeclaredClasses()) {
            Check.holds(inside + " is static", Modifier.isStatic(inside.getModifiers()));
            noPrivateNamesake(inside, names);
        }
        int publicFields = 0;
        for (Field f : c.getDeclaredFields()) {
            publicFields += Modifier.isPublic(f.getModifiers()) ? 1 : 0;
            Check.holds(f.getName() + " is public or private", (f.getModifiers() & (Modifier.PUBLIC | Modifier.PRIVATE)) != 0);
        }
        Check.due("public fields", publicFields, 5);
        Constructor<?>[] constructors = c.getDeclaredConstructors();
        Check.due("constructors", constructors.length, 1);
        Check.due("the constructor's parameters", constructors[0].getParameterCount(), 0);
    }

    private static void noPrivateNamesake(Class<?> c, TreeSet<String> names) {
        for (Method m : c.getDeclaredMethods()) {
            boolean isOfTheFace = Modifier.isPublic(m.getModifiers()) && c == PosterFitter.class;
            Check.holds(c.getName() + "." + m.getName() + " bears no name of the face",
                    isOfTheFace || !names.contains(m.getName()));
        }
    }
}

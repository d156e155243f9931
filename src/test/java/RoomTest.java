import java.lang.management.ManagementFactory;

/** What an object and its 512 calls make must stay small: all of a run's objects stay in one room. */
public final class RoomTest {
    /** A run may make some 7.3 million fields and elements; this is a small part of them, at 4 to 8 bytes each. */
    private static final long MOST_BYTES = 2_000_000;

    public static void main(String[] args) {
        dearestCalls();
        allCalls();
        Check.end();
    }

    private static long bytes() {
        com.sun.management.ThreadMXBean bean = (com.sun.management.ThreadMXBean) ManagementFactory.getThreadMXBean();
        return bean.isThreadAllocatedMemorySupported() ? bean.getThreadAllocatedBytes(Thread.currentThread().getId()) : 0;
    }

    private static PosterFitter full() {
        PosterFitter x = Check.poster(48, 36);
        Check.letters(x, 14);
        return x;
    }

    private static void dearestCalls() {
        long before = bytes();
        PosterFitter x = full();
        for (int call = 16; call < 512; call++) {
            x.take(1);
        }
        long made = bytes() - before;
        Check.holds("512 calls make " + made + " bytes", made < MOST_BYTES);
    }

    private static void allCalls() {
        long before = bytes();
        PosterFitter x = full();
        for (int i = 0; i < 16; i++) {
            x.type('a');
            x.load();
            x.undo();
            x.clearText();
            x.addShape(2, 1, 1, 9, 9);
            x.moveShape(1, 1, 1);
            x.removeShape(1);
            x.span(i, 3, 0);
            x.setSizes(1, 1, 1, 1);
            x.setLines(0, 0, 0, 2);
            x.setWord(3, 1, 1, i % 2 == 0);
            x.cost(2);
            x.fit();
            x.allowed(1);
            x.widestStep(1);
            x.tightestLimit();
            x.textFault();
            x.digest();
        }
        long made = bytes() - before;
        Check.holds("all kinds of calls make " + made + " bytes", made < MOST_BYTES / 4);
    }
}

import java.util.ArrayDeque;
import java.util.ArrayList;
import java.util.Arrays;
import java.util.List;
import java.util.regex.Matcher;
import java.util.regex.Pattern;

/**
 * The document once more, in another and far slower way: every cell is asked of every shape, every way to
 * break the lines is tried whole, and every chain is walked. The class is compared with it.
 */
final class PosterModel {
    private static final Pattern TEXT = Pattern.compile(
            " *([A-Za-z]{1,12}!{0,2}(( +| */ *)[A-Za-z]{1,12}!{0,2})*)? *");
    private static final Pattern WORD = Pattern.compile("(/ *)?([A-Za-z]+)(!*)");

    /** Never changed, but by a method that has just copied it. */
    private static final class Poster {
        List<int[]> shapes = new ArrayList<>();
        List<int[]> words = new ArrayList<>();
        int[] settings = {1, 1, 1, 1, 0, 1, 1, 9};
        Layout present = null;

        Poster copy() {
            Poster p = new Poster();
            shapes.forEach(s -> p.shapes.add(s.clone()));
            words.forEach(w -> p.words.add(w.clone()));
            p.settings = settings.clone();
            p.present = present;
            return p;
        }

        boolean free(int x, int y) {
            boolean free = false;
            for (int[] s : shapes) {
                free ^= holds(s, x, y);
            }
            return free;
        }

        int[] span(int row, int rows) {
            int[] best = {0, -1};
            for (int from = 0; from < 48; from++) {
                int to = from;
                while (to < 48 && freeColumn(to, row, rows)) {
                    to++;
                }
                if (to - from > best[0]) {
                    best = new int[] {to - from, from};
                }
            }
            return best;
        }

        private boolean freeColumn(int x, int row, int rows) {
            for (int y = row; y < row + rows; y++) {
                if (!free(x, y)) {
                    return false;
                }
            }
            return true;
        }
    }

    private static boolean holds(int[] s, int x, int y) {
        if (x < s[1] || x > s[3] || y < s[2] || y > s[4]) {
            return false;
        }
        long u = 2 * x - s[1] - s[3];
        long v = 2 * y - s[2] - s[4];
        long a = s[3] - s[1] + 1;
        long b = s[4] - s[2] + 1;
        return s[0] == 0
                || s[0] == 1 && Math.abs(u) * b + Math.abs(v) * a <= a * b
                || s[0] == 2 && u * u * b * b + v * v * a * a <= a * a * b * b
                || s[0] == 3 && Math.abs(u) * b <= a * (y - s[2] + 1);
    }

    private static final class Line {
        int first, words, row, height, width, spanFirst, slack;

        int[] parts() {
            return new int[] {first, words, row, height, width, spanFirst, slack};
        }
    }

    /** A gap before a word: the columns from..to. */
    private static final class Gap {
        int word, from, to;
    }

    private static final class Layout {
        int base, cost, longest;
        List<Line> lines = new ArrayList<>();
        List<List<Gap>> gaps = new ArrayList<>();
        int[] column, width, size, line, chain;

        int bottom() {
            Line last = lines.get(lines.size() - 1);
            return last.row + last.height;
        }

        /** Walks all chains that begin with this gap, which stands behind so many gaps of a chain. */
        int[] walk(int line, Gap gap, ArrayList<Gap> chain) {
            chain.add(gap);
            for (Gap g : chain) {
                this.chain[g.word] = Math.max(this.chain[g.word], chain.size());
            }
            longest = Math.max(longest, chain.size());
            if (line + 1 < gaps.size()) {
                for (Gap next : gaps.get(line + 1)) {
                    if (Math.max(next.from, gap.from) <= Math.min(next.to, gap.to)) {
                        walk(line + 1, next, chain);
                    }
                }
            }
            chain.remove(chain.size() - 1);
            return this.chain;
        }
    }

    private Poster poster = new Poster();
    private final ArrayDeque<Poster> history = new ArrayDeque<>();
    private String text = "";
    private int[][][] spans;

    private void change() {
        history.addLast(poster);
        if (history.size() > 4) {
            history.removeFirst();
        }
        poster = poster.copy();
        spans = null;
    }

    private int[] span(int row, int rows) {
        if (spans == null) {
            spans = new int[36][37][];
        }
        if (spans[row][rows] == null) {
            spans[row][rows] = poster.span(row, rows);
        }
        return spans[row][rows];
    }

    private static boolean in(int v, int a, int b) {
        return a <= v && v <= b;
    }

    int addShape(int kind, int x1, int y1, int x2, int y2) {
        if (!(in(kind, 0, 3) && in(x1, 0, 47) && in(y1, 0, 35) && in(x2, x1, 47) && in(y2, y1, 35))) {
            return -3;
        }
        if (poster.shapes.size() == 6) {
            return -5;
        }
        change();
        poster.shapes.add(new int[] {kind, x1, y1, x2, y2});
        return poster.shapes.size() - 1;
    }

    int moveShape(int shape, int dx, int dy) {
        if (!in(shape, 0, poster.shapes.size() - 1)) {
            return -2;
        }
        int[] s = poster.shapes.get(shape);
        if (!in(dx, -47, 47) || !in(dy, -35, 35) || s[1] + dx < 0 || s[3] + dx > 47 || s[2] + dy < 0 || s[4] + dy > 35) {
            return -3;
        }
        change();
        poster.shapes.set(shape, new int[] {s[0], s[1] + dx, s[2] + dy, s[3] + dx, s[4] + dy});
        return freeCells();
    }

    int removeShape(int shape) {
        if (!in(shape, 0, poster.shapes.size() - 1)) {
            return -2;
        }
        change();
        poster.shapes.remove(shape);
        return poster.shapes.size();
    }

    int isFree(int x, int y) {
        return !in(x, 0, 47) || !in(y, 0, 35) ? -3 : poster.free(x, y) ? 1 : 0;
    }

    int span(int row, int rows, int what) {
        if (!in(row, 0, 35) || !in(rows, 1, 36) || row + rows > 36 || !in(what, 0, 1)) {
            return -3;
        }
        return span(row, rows)[what];
    }

    int addWord(int letters, int weight) {
        if (!in(letters, 1, 12) || !in(weight, 1, 3)) {
            return -3;
        }
        if (poster.words.size() == 14) {
            return -5;
        }
        change();
        poster.words.add(new int[] {letters, weight, 0});
        return poster.words.size() - 1;
    }

    int setWord(int word, int letters, int weight, boolean mark) {
        if (!in(word, 0, poster.words.size() - 1)) {
            return -2;
        }
        if (!in(letters, 1, 12) || !in(weight, 1, 3)) {
            return -3;
        }
        change();
        return poster.words.set(word, new int[] {letters, weight, mark ? 1 : 0})[0];
    }

    int clearWords() {
        change();
        int n = poster.words.size();
        poster.words.clear();
        return n;
    }

    int setSizes(int step, int least1, int least2, int least3) {
        if (!in(step, 0, 4) || !in(least1, 1, 20) || !in(least2, 1, 20) || !in(least3, 1, 20)) {
            return -3;
        }
        return set(0, step, least1, least2, least3);
    }

    int setLines(int top, int leading, int alignment, int limit) {
        if (!in(top, 0, 35) || !in(leading, 0, 5) || !in(alignment, 0, 2) || !in(limit, 1, 9)) {
            return -3;
        }
        return set(4, top, leading, alignment, limit);
    }

    private int set(int from, int... values) {
        change();
        int previous = poster.settings[from];
        System.arraycopy(values, 0, poster.settings, from, values.length);
        return previous;
    }

    private int freeCells() {
        int n = 0;
        for (int i = 0; i < 48 * 36; i++) {
            n += poster.free(i % 48, i / 48) ? 1 : 0;
        }
        return n;
    }

    int count(int what) {
        return what == 0 ? poster.shapes.size()
                : what == 1 ? poster.words.size()
                : in(what, 2, 9) ? poster.settings[what - 2]
                : what == 10 ? freeCells()
                : what == 11 ? (poster.present == null ? 0 : 1)
                : -3;
    }

    int word(int word, int what) {
        return !in(word, 0, poster.words.size() - 1) ? -2 : !in(what, 0, 2) ? -3 : poster.words.get(word)[what];
    }

    /** All allowed layouts, in no order that matters. */
    private List<Layout> layouts(int base, int step, int limit) {
        List<Layout> all = new ArrayList<>();
        int n = poster.words.size();
        if (n == 0) {
            return all;
        }
        for (int[] w : poster.words) {
            if (base + (w[1] - 1) * step < poster.settings[w[1]]) {
                return all;
            }
        }
        for (int breaks = 0; breaks < 1 << n - 1; breaks++) {
            Layout l = layout(base, step, breaks);
            if (l != null && l.longest <= limit) {
                all.add(l);
            }
        }
        return all;
    }

    /** Bit i of breaks tells whether a line ends behind word i. */
    private Layout layout(int base, int step, int breaks) {
        int n = poster.words.size();
        Layout l = new Layout();
        l.base = base;
        l.column = new int[n];
        l.width = new int[n];
        l.size = new int[n];
        l.line = new int[n];
        l.chain = new int[n];
        for (int i = 0; i < n; i++) {
            int[] w = poster.words.get(i);
            l.size[i] = base + (w[1] - 1) * step;
            l.width[i] = w[0] * l.size[i];
            boolean begins = i == 0 || (breaks >> i - 1 & 1) != 0;
            if (!begins && w[2] == 1) {
                return null;
            }
            if (begins) {
                Line line = new Line();
                line.first = i;
                l.lines.add(line);
            }
            l.line[i] = l.lines.size() - 1;
            l.lines.get(l.line[i]).words++;
        }
        int row = poster.settings[4];
        for (Line line : l.lines) {
            line.row = row;
            if (!place(l, line)) {
                return null;
            }
            l.cost += line.slack * line.slack;
            row += line.height + poster.settings[5];
        }
        for (int i = 0; i < l.lines.size(); i++) {
            for (Gap g : l.gaps.get(i)) {
                l.walk(i, g, new ArrayList<>());
            }
        }
        return l;
    }

    private boolean place(Layout l, Line line) {
        int end = line.first + line.words;
        for (int i = line.first; i < end; i++) {
            line.height = Math.max(line.height, l.size[i]);
            line.width += l.width[i] + (i > line.first ? Math.min(l.size[i - 1], l.size[i]) : 0);
        }
        if (line.row + line.height > 36) {
            return false;
        }
        int[] span = span(line.row, line.height);
        line.slack = span[0] - line.width;
        line.spanFirst = span[1];
        if (line.slack < 0) {
            return false;
        }
        int[] indents = {0, line.slack / 2, line.slack};
        int x = line.spanFirst + indents[poster.settings[6]];
        List<Gap> gaps = new ArrayList<>();
        for (int i = line.first; i < end; i++) {
            if (i > line.first) {
                Gap g = new Gap();
                g.word = i;
                g.from = x;
                x += Math.min(l.size[i - 1], l.size[i]);
                g.to = x - 1;
                gaps.add(g);
            }
            l.column[i] = x;
            x += l.width[i];
        }
        l.gaps.add(gaps);
        return true;
    }

    private Layout best(int base, int step, int limit) {
        Layout best = null;
        for (Layout l : layouts(base, step, limit)) {
            if (best == null || l.cost < best.cost || l.cost == best.cost && Arrays.compare(numbers(l), numbers(best)) < 0) {
                best = l;
            }
        }
        return best;
    }

    private static int[] numbers(Layout l) {
        return l.lines.stream().mapToInt(line -> line.words).toArray();
    }

    private Layout best(int base) {
        return best(base, poster.settings[0], poster.settings[7]);
    }

    private int fit(int limit) {
        int fit = -1;
        for (int base = 1; base <= 12; base++) {
            fit = layouts(base, poster.settings[0], limit).isEmpty() ? fit : base;
        }
        return fit;
    }

    int cost(int base) {
        if (!in(base, 1, 12)) {
            return -3;
        }
        Layout l = best(base);
        return l == null ? -1 : l.cost;
    }

    int fit() {
        return fit(poster.settings[7]);
    }

    int allowed(int base) {
        return in(base, 1, 12) ? layouts(base, poster.settings[0], poster.settings[7]).size() : -3;
    }

    int take(int base) {
        if (!in(base, 0, 12)) {
            return -3;
        }
        change();
        int taken = base == 0 ? fit() : base;
        Layout l = taken == -1 ? null : best(taken);
        if (l == null) {
            return -1;
        }
        poster.present = l;
        return l.cost;
    }

    int widestStep(int base) {
        if (!in(base, 1, 12)) {
            return -3;
        }
        int widest = -1;
        for (int step = 0; step <= 4; step++) {
            widest = layouts(base, step, poster.settings[7]).isEmpty() ? widest : step;
        }
        return widest;
    }

    int tightestLimit() {
        int fit = fit(9);
        if (fit == -1) {
            return -1;
        }
        int limit = 9;
        while (limit > 1 && fit(limit - 1) == fit) {
            limit--;
        }
        return limit;
    }

    int layout(int what) {
        if (!in(what, 0, 4)) {
            return -3;
        }
        Layout l = poster.present;
        return l == null ? -4 : new int[] {l.base, l.lines.size(), l.cost, l.longest, l.bottom()}[what];
    }

    int line(int line, int what) {
        Layout l = poster.present;
        return l == null ? -4
                : !in(line, 0, l.lines.size() - 1) ? -2
                : !in(what, 0, 6) ? -3
                : l.lines.get(line).parts()[what];
    }

    int placed(int word, int what) {
        Layout l = poster.present;
        return l == null ? -4
                : !in(word, 0, l.size.length - 1) ? -2
                : !in(what, 0, 4) ? -3
                : new int[][] {l.column, l.width, l.size, l.line, l.chain}[what][word];
    }

    int type(int code) {
        if (!in(code, 0, 255)) {
            return -3;
        }
        if (text.length() == 80) {
            return -5;
        }
        text += (char) code;
        return text.length();
    }

    int clearText() {
        int n = text.length();
        text = "";
        return n;
    }

    /** A byte can stand at its place if the text up to it is whole, or could become whole. */
    int textFault() {
        for (int i = 0; i < text.length(); i++) {
            Matcher m = TEXT.matcher(text.substring(0, i + 1));
            if (!m.matches() && !m.hitEnd() || wordsOf(text.substring(0, i + 1)).size() > 14) {
                return i;
            }
        }
        return TEXT.matcher(text).matches() ? -1 : text.length();
    }

    private static List<int[]> wordsOf(String s) {
        List<int[]> words = new ArrayList<>();
        Matcher m = WORD.matcher(s);
        while (m.find()) {
            words.add(new int[] {m.group(2).length(), 1 + m.group(3).length(), m.group(1) == null ? 0 : 1});
        }
        return words;
    }

    int load() {
        if (textFault() != -1) {
            return -4;
        }
        change();
        poster.words = wordsOf(text);
        return poster.words.size();
    }

    int undo() {
        if (history.isEmpty()) {
            return -4;
        }
        poster = history.removeLast();
        spans = null;
        return history.size();
    }

    long digest() {
        List<Integer> all = new ArrayList<>();
        for (int what = 0; what <= 11; what++) {
            all.add(count(what));
        }
        for (int row = 0; row < 36; row++) {
            all.add(span(row, 1, 0));
            all.add(span(row, 1, 1));
        }
        addRows(all, poster.words.size(), 3, 0);
        if (poster.present != null) {
            addRows(all, 1, 5, 1);
            addRows(all, poster.present.lines.size(), 7, 2);
            addRows(all, poster.present.size.length, 5, 3);
        }
        long h = 23;
        for (int v : all) {
            h = 31 * h + v;
        }
        return h;
    }

    private void addRows(List<Integer> all, int rows, int whats, int of) {
        for (int row = 0; row < rows; row++) {
            for (int what = 0; what < whats; what++) {
                all.add(of == 0 ? word(row, what) : of == 1 ? layout(what) : of == 2 ? line(row, what) : placed(row, what));
            }
        }
    }
}

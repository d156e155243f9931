/** Promises 2 to 6: addShape, moveShape, removeShape, isFree, span. */
public final class ShapesTest {
    private static final int MIN = Integer.MIN_VALUE, MAX = Integer.MAX_VALUE;

    public static void main(String[] args) {
        kinds();
        addShape();
        moveShape();
        removeShape();
        isFree();
        span();
        Check.end();
    }

    private static PosterFitter with(int kind, int x1, int y1, int x2, int y2) {
        PosterFitter x = new PosterFitter();
        Check.due("addShape of kind " + kind, x.addShape(kind, x1, y1, x2, y2), 0);
        return x;
    }

    private static void kinds() {
        Check.looks("rectangle", with(0, 1, 1, 3, 2), ".....", ".###.", ".###.", ".....");
        Check.looks("diamond", with(1, 0, 0, 4, 4), "..#..", ".###.", "#####", ".###.", "..#..");
        Check.looks("flat diamond", with(1, 0, 0, 5, 1), ".####.", ".####.");
        Check.looks("moved diamond", with(1, 2, 1, 6, 3), ".........", "....#....", "..#####..", "....#....");
        Check.looks("ellipse", with(2, 0, 0, 4, 4), ".###.", "#####", "#####", "#####", ".###.");
        Check.looks("flat ellipse", with(2, 1, 0, 6, 2), "..####..", ".######.", "..####..");
        Check.looks("triangle", with(3, 0, 0, 4, 4), "..#..", ".###.", ".###.", "#####", "#####");
        Check.looks("moved triangle", with(3, 1, 1, 7, 3), ".........", "...###...", "..#####..", ".#######.");
        for (int kind = 0; kind < 4; kind++) {
            Check.looks("one cell of kind " + kind, with(kind, 2, 2, 2, 2), "....", "....", "..#.", "....");
        }
        PosterFitter nested = with(0, 0, 0, 6, 4);
        nested.addShape(0, 1, 1, 5, 3);
        nested.addShape(0, 3, 2, 3, 2);
        Check.looks("nested", nested, "#######", "#.....#", "#..#..#", "#.....#", "#######");
        PosterFitter crossed = with(0, 0, 0, 2, 0);
        crossed.addShape(0, 2, 0, 4, 0);
        Check.looks("crossed", crossed, "##.##");
    }

    private static void addShape() {
        PosterFitter x = new PosterFitter();
        int[][] bad = {{-1, 0, 0, 1, 1}, {4, 0, 0, 1, 1}, {0, -1, 0, 1, 1}, {0, 48, 0, 48, 1}, {0, 0, -1, 1, 1},
            {0, 0, 36, 1, 36}, {0, 2, 0, 1, 1}, {0, 0, 0, 48, 1}, {0, 0, 2, 1, 1}, {0, 0, 0, 1, 36},
            {MIN, 0, 0, 1, 1}, {0, MIN, MIN, MAX, MAX}, {MAX, 0, 0, 1, 1}};
        for (int[] b : bad) {
            Check.due("addShape(" + java.util.Arrays.toString(b) + ")", x.addShape(b[0], b[1], b[2], b[3], b[4]), -3);
        }
        Check.due("bad addShape adds none", x.count(0), 0);
        Check.due("bad addShape is not recorded", x.undo(), -4);
        for (int i = 0; i < 6; i++) {
            Check.due("addShape " + i, x.addShape(i % 4, 0, 0, 47, 35), i);
        }
        Check.due("count(0)", x.count(0), 6);
        long before = x.digest();
        Check.due("addShape to 6", x.addShape(0, 0, 0, 1, 1), -5);
        Check.due("bad addShape to 6", x.addShape(4, 0, 0, 1, 1), -3);
        Check.due("full addShape changes nothing", x.digest(), before);
        Check.due("the whole canvas", with(0, 0, 0, 47, 35).count(10), 48 * 36);
        Check.due("addShape is recorded", x.undo(), 3);
        Check.due("addShape is undone", x.count(0), 5);
    }

    private static void moveShape() {
        PosterFitter x = with(0, 10, 10, 12, 11);
        Check.due("moveShape(0, -10, -10)", x.moveShape(0, -10, -10), 6);
        Check.looks("moved", x, "###.", "###.", "....");
        Check.due("moveShape(0, 45, 34)", x.moveShape(0, 45, 34), 6);
        Check.due("moved to the corner", x.isFree(47, 35) + x.isFree(45, 34), 2);
        Check.due("moveShape(0, 1, 0)", x.moveShape(0, 1, 0), -3);
        Check.due("moveShape(0, 0, 1)", x.moveShape(0, 0, 1), -3);
        Check.due("moveShape(0, -46, 0)", x.moveShape(0, -46, 0), -3);
        Check.due("moveShape(0, 0, -35)", x.moveShape(0, 0, -35), -3);
        Check.due("moveShape(0, -48, 0)", x.moveShape(0, -48, 0), -3);
        Check.due("moveShape(0, 48, 0)", x.moveShape(0, 48, 0), -3);
        Check.due("moveShape(0, 0, 36)", x.moveShape(0, 0, 36), -3);
        Check.due("moveShape(0, 0, -36)", x.moveShape(0, 0, -36), -3);
        Check.due("moveShape(0, MAX, MIN)", x.moveShape(0, MAX, MIN), -3);
        Check.due("moveShape(1, 0, 0)", x.moveShape(1, 0, 0), -2);
        Check.due("moveShape(-1, 48, 0)", x.moveShape(-1, 48, 0), -2);
        Check.due("moveShape(MAX, 0, 0)", x.moveShape(MAX, 0, 0), -2);
        x.addShape(0, 0, 0, 3, 3);
        Check.due("moveShape(1, 43, 31), over another", x.moveShape(1, 43, 31), 16 + 6 - 4);
        Check.due("moveShape(1, 0, 0)", x.moveShape(1, 0, 0), 18);
        Check.due("moveShape is recorded", x.undo(), 3);
        x.undo();
        Check.due("moveShape is undone", x.isFree(0, 0) + x.isFree(3, 3), 2);
        PosterFitter far = with(0, 0, 0, 0, 0);
        Check.due("moveShape(0, 47, 35)", far.moveShape(0, 47, 35), 1);
        Check.due("moveShape(0, -47, -35)", far.moveShape(0, -47, -35), 1);
    }

    private static void removeShape() {
        PosterFitter x = with(0, 0, 0, 2, 0);
        x.addShape(0, 1, 0, 1, 0);
        x.addShape(0, 5, 0, 8, 0);
        Check.due("removeShape(-1)", x.removeShape(-1), -2);
        Check.due("removeShape(3)", x.removeShape(3), -2);
        Check.due("removeShape(1)", x.removeShape(1), 2);
        Check.looks("one removed", x, "###..####");
        Check.due("the number is lower", x.moveShape(1, 1, 0), 7);
        Check.looks("moved by its new number", x, "###...####");
        Check.due("removeShape(0)", x.removeShape(0), 1);
        Check.looks("the first removed", x, "......####");
        Check.due("removeShape(0)", x.removeShape(0), 0);
        Check.due("count(10)", x.count(10), 0);
        Check.due("removeShape(0) of none", x.removeShape(0), -2);
        Check.due("removeShape is recorded", x.undo(), 3);
        Check.looks("removeShape undone", x, "......####");
        x.undo();
        Check.looks("removeShape undone twice", x, "###...####");
        Check.due("moveShape after undo", x.moveShape(0, 1, 0), 7);
    }

    private static void isFree() {
        PosterFitter x = with(0, 0, 0, 47, 35);
        Check.due("isFree(0, 0)", x.isFree(0, 0), 1);
        Check.due("isFree(47, 35)", x.isFree(47, 35), 1);
        Check.due("isFree(48, 0)", x.isFree(48, 0), -3);
        Check.due("isFree(-1, 0)", x.isFree(-1, 0), -3);
        Check.due("isFree(0, 36)", x.isFree(0, 36), -3);
        Check.due("isFree(0, -1)", x.isFree(0, -1), -3);
        Check.due("isFree(MIN, MAX)", x.isFree(MIN, MAX), -3);
    }

    private static void spans(PosterFitter x, int row, int rows, int length, int first) {
        Check.due("span(" + row + ", " + rows + ", 0)", x.span(row, rows, 0), length);
        Check.due("span(" + row + ", " + rows + ", 1)", x.span(row, rows, 1), first);
    }

    private static void span() {
        PosterFitter x = with(0, 0, 0, 47, 35);
        spans(x, 0, 36, 48, 0);
        spans(x, 35, 1, 48, 0);
        x.addShape(0, 20, 3, 24, 5);
        spans(x, 2, 1, 48, 0);
        spans(x, 3, 1, 23, 25);
        spans(x, 0, 4, 23, 25);
        spans(x, 0, 3, 48, 0);
        x.moveShape(1, 1, 0);
        spans(x, 5, 2, 22, 26);
        spans(x, 6, 2, 48, 0);
        x.addShape(0, 47, 5, 47, 5);
        spans(x, 5, 1, 21, 0);
        x.undo();
        spans(x, 5, 1, 22, 26);
        PosterFitter tie = with(0, 3, 0, 7, 0);
        tie.addShape(0, 9, 0, 13, 0);
        spans(tie, 0, 1, 5, 3);
        spans(tie, 0, 2, 0, -1);
        spans(tie, 1, 1, 0, -1);
        tie.addShape(0, 15, 0, 20, 0);
        spans(tie, 0, 1, 6, 15);
        Check.due("span(0, 37, 0)", x.span(0, 37, 0), -3);
        Check.due("span(35, 2, 0)", x.span(35, 2, 0), -3);
        Check.due("span(36, 1, 0)", x.span(36, 1, 0), -3);
        Check.due("span(-1, 1, 0)", x.span(-1, 1, 0), -3);
        Check.due("span(-1, 2, 0)", x.span(-1, 2, 0), -3);
        Check.due("span(0, 0, 0)", x.span(0, 0, 0), -3);
        Check.due("span(0, -1, 0)", x.span(0, -1, 0), -3);
        Check.due("span(1, MAX, 0)", x.span(1, MAX, 0), -3);
        Check.due("span(MAX, MAX, 0)", x.span(MAX, MAX, 0), -3);
        Check.due("span(0, 1, 2)", x.span(0, 1, 2), -3);
        Check.due("span(0, 1, -1)", x.span(0, 1, -1), -3);
    }
}

/** The document's sentences on the canvas, shapes and spans that name an edge; promises 2 to 6. */
public final class CanvasEdgesTest {
    private static final int MIN = Integer.MIN_VALUE, MAX = Integer.MAX_VALUE;
    private static final int BAD_INDEX = -2, BAD_VALUE = -3, FULL = -5;

    public static void main(String[] args) {
        canvasSize();
        columnsAndRows();
        boxIncludesBothCorners();
        negativeDistances();
        diamondAtMost();
        ellipseAtMost();
        triangleAtMost();
        thinShapes();
        wholeCanvas();
        noOtherCells();
        oddNumbersOfShapes();
        holes();
        spansOfBands();
        longestAndLeftmostSpan();
        addShapeRanges();
        sixShapes();
        moveShapeRanges();
        moveShapeToTheEdges();
        freeCellsThen();
        removeShapeNumbers();
        shapesLeft();
        noShapes();
        isFreeRanges();
        spanRanges();
        spanWithoutFreeColumns();
        Check.end();
    }

    private static PosterFitter with(int kind, int x1, int y1, int x2, int y2) {
        PosterFitter x = new PosterFitter();
        Check.due("addShape of kind " + kind, x.addShape(kind, x1, y1, x2, y2), 0);
        return x;
    }

    private static void spans(PosterFitter x, int row, int rows, int length, int first) {
        Check.due("span(" + row + ", " + rows + ", 0)", x.span(row, rows, 0), length);
        Check.due("span(" + row + ", " + rows + ", 1)", x.span(row, rows, 1), first);
    }

    private static void canvasSize() {
        Check.sentence("The canvas has 48 columns, 0 to 47 from the left, and 36 rows, 0 to 35 from the top");
        Check.due("all cells", with(0, 0, 0, 47, 35).count(10), 1728);
        for (int y = 0; y < 36; y++) {
            PosterFitter x = with(0, 0, 0, 47, 35);
            for (int c = 0; c < 48; c++) {
                Check.due("isFree(" + c + ", " + y + ")", x.isFree(c, y), 1);
            }
        }
    }

    private static void columnsAndRows() {
        Check.sentence("a cell (x, y) is in column x and row y");
        int[][] corners = {{0, 0}, {47, 0}, {0, 35}, {47, 35}, {35, 0}, {0, 1}};
        for (int[] of : corners) {
            PosterFitter x = with(0, of[0], of[1], of[0], of[1]);
            Check.due("one cell", x.count(10), 1);
            for (int[] at : corners) {
                Check.due("isFree(" + at[0] + ", " + at[1] + ")", x.isFree(at[0], at[1]), at == of ? 1 : 0);
            }
            spans(x, of[1], 1, 1, of[0]);
            spans(x, 20, 1, 0, -1);
        }
    }

    private static void boxIncludesBothCorners() {
        Check.sentence("a box of cells from (x1, y1) to (x2, y2), both included, with x1 at most x2 and y1 at most y2");
        Check.looks("x1 is x2, y1 is y2", with(0, 1, 1, 1, 1), "...", ".#.", "...");
        Check.looks("x1 is x2", with(0, 1, 1, 1, 2), "...", ".#.", ".#.", "...");
        Check.looks("y1 is y2", with(0, 1, 1, 2, 1), "....", ".##.", "....");
        Check.due("the last cells", with(0, 46, 34, 47, 35).count(10), 4);
        PosterFitter x = new PosterFitter();
        Check.due("x1 above x2", x.addShape(0, 2, 1, 1, 1), BAD_VALUE);
        Check.due("y1 above y2", x.addShape(0, 1, 2, 1, 1), BAD_VALUE);
        Check.due("x1 far above x2", x.addShape(0, 47, 1, 0, 1), BAD_VALUE);
        Check.due("y1 far above y2", x.addShape(0, 1, 35, 1, 0), BAD_VALUE);
    }

    private static void negativeDistances() {
        Check.sentence("v be 2 * y - y1 - y2 (which can be negative)");
        Check.looks("diamond", with(1, 1, 1, 5, 5), "......", "...#..", "..###.", ".#####", "..###.", "...#..");
        Check.looks("ellipse", with(2, 1, 1, 4, 4), "......", "..##..", ".####.", ".####.", "..##..");
        Check.looks("triangle", with(3, 1, 1, 4, 4), "......", "..##..", "..##..", ".####.", ".####.");
    }

    private static void diamondAtMost() {
        Check.sentence("1 (diamond): if |u| * b + |v| * a is at most a * b");
        Check.looks("2 by 2, just at most", with(1, 0, 0, 1, 1), "##", "##");
        Check.looks("4 by 4, just at most", with(1, 0, 0, 3, 3), ".##.", "####", "####", ".##.");
        Check.looks("2 by 3, above", with(1, 0, 0, 1, 2), "..", "##", "..");
        Check.looks("3 by 2, above", with(1, 0, 0, 2, 1), ".#.", ".#.");
        Check.looks("8 by 3", with(1, 0, 0, 7, 2), "...##...", "########", "...##...");
        Check.looks("3 by 8", with(1, 0, 0, 2, 7), ".#.", ".#.", ".#.", "###", "###", ".#.", ".#.", ".#.");
    }

    /** Equality can't be: u and a are not both odd, nor both even. */
    private static void ellipseAtMost() {
        Check.sentence("2 (ellipse): if u * u * b * b + v * v * a * a is at most a * a * b * b");
        Check.looks("4 by 3, above by 1", with(2, 0, 0, 3, 2), ".##.", "####", ".##.");
        Check.looks("3 by 4, above by 1", with(2, 0, 0, 2, 3), ".#.", "###", "###", ".#.");
        Check.looks("2 by 3", with(2, 0, 0, 1, 2), "##", "##", "##");
        Check.looks("3 by 2", with(2, 0, 0, 2, 1), "###", "###");
        Check.looks("7 by 5", with(2, 0, 0, 6, 4), ".#####.", "#######", "#######", "#######", ".#####.");
        PosterFitter x = with(2, 0, 0, 10, 11);
        Check.due("11 by 12, above by 1", x.isFree(0, 3), 0);
        Check.due("11 by 12, the row below", x.isFree(0, 4), 1);
    }

    private static void triangleAtMost() {
        Check.sentence("3 (triangle, with its point above): if |u| * b is at most a * (y - y1 + 1)");
        Check.looks("2 by 2, just at most", with(3, 0, 0, 1, 1), "##", "##");
        Check.looks("2 by 3, above", with(3, 0, 0, 1, 2), "..", "##", "##");
        Check.looks("3 by 2, above", with(3, 0, 0, 2, 1), ".#.", "###");
        Check.looks("6 by 6, just at most", with(3, 0, 0, 5, 5),
                "..##..", "..##..", ".####.", ".####.", "######", "######");
        Check.looks("7 by 5", with(3, 0, 0, 6, 4), "...#...", "..###..", ".#####.", ".#####.", "#######");
    }

    private static void thinShapes() {
        Check.sentence("A cell of the box belongs to a shape of the kind");
        for (int kind = 0; kind < 4; kind++) {
            Check.looks("one cell of kind " + kind, with(kind, 1, 1, 1, 1), "...", ".#.", "...");
            Check.looks("one row of kind " + kind, with(kind, 1, 0, 4, 0), ".####.", "......");
            Check.looks("one column of kind " + kind, with(kind, 1, 0, 1, 3), ".#.", ".#.", ".#.", ".#.", "...");
            Check.due("the last row of kind " + kind, with(kind, 0, 35, 47, 35).count(10), 48);
            Check.due("the last column of kind " + kind, with(kind, 47, 0, 47, 35).count(10), 36);
        }
    }

    private static void wholeCanvas() {
        Check.sentence("A cell of the box belongs to a shape of the kind");
        int[] cells = {1728, 864, 1356, 888};
        int[] firstRow = {48, 2, 12, 2};
        int[] lastRow = {48, 2, 12, 48};
        int[] middleRow = {48, 46, 48, 24};
        for (int kind = 0; kind < 4; kind++) {
            PosterFitter x = with(kind, 0, 0, 47, 35);
            Check.due("cells of kind " + kind, x.count(10), cells[kind]);
            spans(x, 0, 1, firstRow[kind], 24 - firstRow[kind] / 2);
            spans(x, 17, 1, middleRow[kind], 24 - middleRow[kind] / 2);
            spans(x, 35, 1, lastRow[kind], 24 - lastRow[kind] / 2);
        }
    }

    private static void noOtherCells() {
        Check.sentence("No other cells belong to it.");
        for (int kind = 0; kind < 4; kind++) {
            PosterFitter x = with(kind, 10, 10, 13, 11);
            for (int c = 8; c <= 15; c++) {
                for (int y = 8; y <= 13; y++) {
                    if (c < 10 || c > 13 || y < 10 || y > 11) {
                        Check.due("outside of kind " + kind, x.isFree(c, y), 0);
                    }
                }
            }
        }
    }

    private static void oddNumbersOfShapes() {
        Check.sentence("A cell is free if it belongs to an odd number of shapes.");
        PosterFitter x = new PosterFitter();
        Check.due("no shape", x.isFree(5, 5), 0);
        for (int shapes = 1; shapes <= 6; shapes++) {
            x.addShape(shapes % 4, 5, 5, 5, 5);
            Check.due(shapes + " shapes", x.isFree(5, 5), shapes % 2);
            Check.due(shapes + " shapes", x.count(10), shapes % 2);
        }
        for (int shapes = 5; shapes >= 0; shapes--) {
            x.removeShape(0);
            Check.due(shapes + " shapes left", x.isFree(5, 5), shapes % 2);
        }
    }

    private static void holes() {
        Check.sentence("(So a shape in another one is a hole, and one in the hole is free again.)");
        PosterFitter x = with(0, 0, 0, 10, 10);
        for (int i = 1; i <= 5; i++) {
            x.addShape(0, i, i, 10 - i, 10 - i);
        }
        Check.looks("six nested shapes", x, "###########", "#.........#", "#.#######.#", "#.#.....#.#",
                "#.#.###.#.#", "#.#.#.#.#.#", "#.#.###.#.#", "#.#.....#.#", "#.#######.#", "#.........#", "###########");
    }

    private static void spansOfBands() {
        Check.sentence("A span of a band is a longest sequence of neighbouring columns all of whose cells in these rows are free.");
        PosterFitter x = with(0, 0, 0, 47, 35);
        spans(x, 0, 36, 48, 0);
        x.addShape(0, 20, 0, 20, 0);
        spans(x, 0, 36, 27, 21);
        spans(x, 1, 35, 48, 0);
        x.moveShape(1, 0, 35);
        spans(x, 0, 36, 27, 21);
        spans(x, 0, 35, 48, 0);
        spans(x, 35, 1, 27, 21);
        spans(x, 34, 1, 48, 0);
        PosterFitter steps = with(0, 0, 0, 9, 0);
        steps.addShape(0, 5, 1, 14, 1);
        steps.addShape(0, 9, 2, 30, 2);
        spans(steps, 0, 2, 5, 5);
        spans(steps, 1, 2, 6, 9);
        spans(steps, 0, 3, 1, 9);
        spans(steps, 0, 4, 0, -1);
        PosterFitter edges = with(0, 40, 0, 47, 0);
        edges.addShape(0, 0, 1, 7, 1);
        spans(edges, 0, 1, 8, 40);
        spans(edges, 1, 1, 8, 0);
        spans(edges, 0, 2, 0, -1);
    }

    private static void longestAndLeftmostSpan() {
        Check.sentence("The span of a band that is used is the longest one, of several the leftmost one.");
        PosterFitter x = with(0, 0, 0, 9, 0);
        x.addShape(0, 38, 0, 47, 0);
        spans(x, 0, 1, 10, 0);
        x.addShape(0, 20, 0, 29, 0);
        spans(x, 0, 1, 10, 0);
        x.addShape(0, 0, 0, 0, 0);
        spans(x, 0, 1, 10, 20);
        x.addShape(0, 20, 0, 20, 0);
        spans(x, 0, 1, 10, 38);
        x.addShape(0, 38, 0, 38, 0);
        spans(x, 0, 1, 9, 1);
        PosterFitter dots = with(0, 3, 0, 3, 0);
        dots.addShape(0, 1, 0, 1, 0);
        dots.addShape(0, 47, 0, 47, 0);
        spans(dots, 0, 1, 1, 1);
    }

    private static void addShapeRanges() {
        Check.sentence("Returns the number of the shape; BAD_VALUE if an argument is out of range; FULL if there are 6 shapes.");
        for (int bad : Check.outside(0, 3)) {
            Story.refused("addShape: kind " + bad, PosterFitter::new, BAD_VALUE, x -> x.addShape(bad, 0, 0, 47, 35));
        }
        for (int bad : Check.outside(0, 47)) {
            Story.refused("addShape: x1 " + bad, PosterFitter::new, BAD_VALUE, x -> x.addShape(0, bad, 0, 47, 35));
            Story.refused("addShape: x1 and x2 " + bad, PosterFitter::new, BAD_VALUE, x -> x.addShape(0, bad, 0, bad, 35));
        }
        for (int bad : Check.outside(0, 35)) {
            Story.refused("addShape: y1 " + bad, PosterFitter::new, BAD_VALUE, x -> x.addShape(0, 0, bad, 47, 35));
            Story.refused("addShape: y1 and y2 " + bad, PosterFitter::new, BAD_VALUE, x -> x.addShape(0, 0, bad, 47, bad));
        }
        for (int bad : Check.outside(9, 47)) {
            Story.refused("addShape: x2 " + bad, PosterFitter::new, BAD_VALUE, x -> x.addShape(0, 9, 9, bad, 9));
        }
        for (int bad : Check.outside(9, 35)) {
            Story.refused("addShape: y2 " + bad, PosterFitter::new, BAD_VALUE, x -> x.addShape(0, 9, 9, 9, bad));
        }
        for (int kind = 0; kind < 4; kind++) {
            Check.due("the least values", new PosterFitter().addShape(kind, 0, 0, 0, 0), 0);
            Check.due("the greatest values", new PosterFitter().addShape(kind, 47, 35, 47, 35), 0);
        }
    }

    private static PosterFitter full() {
        PosterFitter x = new PosterFitter();
        for (int i = 0; i < 6; i++) {
            Check.due("addShape " + i, x.addShape(i % 4, i, i, 40 - i, 30), i);
        }
        return x;
    }

    private static void sixShapes() {
        Check.sentence("There are at most 6 shapes, numbered from 0.");
        Check.due("six shapes", full().count(0), 6);
        Story.refused("addShape to six", CanvasEdgesTest::full, FULL, x -> x.addShape(0, 0, 0, 0, 0));
        Check.sentence("If several apply to a call, the first one in this order is returned");
        Story.refused("bad addShape to six", CanvasEdgesTest::full, BAD_VALUE, x -> x.addShape(4, 0, 0, 0, 0));
        Story.refused("bad box to six", CanvasEdgesTest::full, BAD_VALUE, x -> x.addShape(0, 0, 0, 0, 36));
        Check.sentence("There are at most 6 shapes, numbered from 0.");
        PosterFitter x = full();
        x.removeShape(2);
        Check.due("addShape to five", x.addShape(0, 0, 0, 0, 0), 5);
        Check.due("addShape to six", x.addShape(0, 0, 0, 0, 0), FULL);
        x.undo();
        Check.due("addShape after undo", x.addShape(0, 0, 0, 0, 0), 5);
        Check.due("addShape to six", x.addShape(0, 0, 0, 0, 0), FULL);
    }

    private static PosterFitter two() {
        PosterFitter x = with(0, 3, 4, 44, 31);
        x.addShape(1, 10, 10, 20, 20);
        return x;
    }

    private static void moveShapeRanges() {
        Check.sentence("BAD_INDEX if there is no such shape; BAD_VALUE if dx or dy is out of range, or the box would not be on the canvas.");
        for (int bad : Check.outside(0, 1)) {
            Story.refused("moveShape(" + bad + ", 0, 0)", CanvasEdgesTest::two, BAD_INDEX, x -> x.moveShape(bad, 0, 0));
            Story.refused("moveShape(" + bad + ", 48, 0)", CanvasEdgesTest::two, BAD_INDEX, x -> x.moveShape(bad, 48, 0));
            Story.refused("moveShape(" + bad + ", 0, 36)", CanvasEdgesTest::two, BAD_INDEX, x -> x.moveShape(bad, 0, 36));
        }
        for (int bad : Check.outside(-47, 47)) {
            Story.refused("moveShape(0, " + bad + ", 0)", CanvasEdgesTest::two, BAD_VALUE, x -> x.moveShape(0, bad, 0));
        }
        for (int bad : Check.outside(-35, 35)) {
            Story.refused("moveShape(0, 0, " + bad + ")", CanvasEdgesTest::two, BAD_VALUE, x -> x.moveShape(0, 0, bad));
        }
        for (int bad : Check.outside(-3, 3)) {
            Story.refused("moveShape(0, " + bad + ", 0)", CanvasEdgesTest::two, BAD_VALUE, x -> x.moveShape(0, bad, 0));
            Story.refused("moveShape(0, " + bad + ", 4)", CanvasEdgesTest::two, BAD_VALUE, x -> x.moveShape(0, bad, 4));
        }
        for (int bad : Check.outside(-4, 4)) {
            Story.refused("moveShape(0, 0, " + bad + ")", CanvasEdgesTest::two, BAD_VALUE, x -> x.moveShape(0, 0, bad));
            Story.refused("moveShape(0, 3, " + bad + ")", CanvasEdgesTest::two, BAD_VALUE, x -> x.moveShape(0, 3, bad));
        }
    }

    private static void moveShapeToTheEdges() {
        Check.sentence("BAD_VALUE if dx or dy is out of range, or the box would not be on the canvas.");
        Check.due("to the left edge", two().moveShape(0, -3, 0), 42 * 28 - 61);
        Check.due("to the right edge", two().moveShape(0, 3, 0), 42 * 28 - 61);
        Check.due("to the upper edge", two().moveShape(0, 0, -4), 42 * 28 - 61);
        Check.due("to the lower edge", two().moveShape(0, 0, 4), 42 * 28 - 61);
        PosterFitter x = with(0, 0, 0, 0, 0);
        Check.due("moveShape(0, 47, 35)", x.moveShape(0, 47, 35), 1);
        Check.due("moved", x.isFree(47, 35), 1);
        Check.due("moveShape(0, -47, -35)", x.moveShape(0, -47, -35), 1);
        Check.due("moved back", x.isFree(0, 0), 1);
        PosterFitter whole = with(0, 0, 0, 47, 35);
        for (int[] by : new int[][] {{1, 0}, {-1, 0}, {0, 1}, {0, -1}}) {
            Check.due("the whole canvas can't be moved", whole.moveShape(0, by[0], by[1]), BAD_VALUE);
        }
        Check.due("but by nothing", whole.moveShape(0, 0, 0), 1728);
        PosterFitter last = full();
        Check.due("the last of six", last.moveShape(5, 1, 1) >= 0 ? 1 : 0, 1);
        Check.due("behind the last of six", last.moveShape(6, 1, 1), BAD_INDEX);
    }

    private static void freeCellsThen() {
        Check.sentence("Returns the number of free cells then");
        PosterFitter x = with(0, 0, 0, 2, 1);
        x.addShape(0, 45, 34, 47, 35);
        Check.due("onto the other one", x.moveShape(0, 45, 34), 0);
        Check.due("count(10)", x.count(10), 0);
        Check.due("by nothing", x.moveShape(0, 0, 0), 0);
        Check.due("half off the other one", x.moveShape(0, 0, -1), 6);
        Check.due("off the other one", x.moveShape(1, -45, -34), 12);
        PosterFitter hole = with(0, 0, 0, 47, 35);
        hole.addShape(0, 0, 0, 0, 0);
        Check.due("a hole that moves", hole.moveShape(1, 47, 35), 1727);
        Check.due("where it was", hole.isFree(0, 0), 1);
        Check.due("where it is", hole.isFree(47, 35), 0);
    }

    private static void removeShapeNumbers() {
        Check.sentence("Removes a shape; those behind it get numbers that are lower by 1.");
        for (int bad : Check.outside(0, 5)) {
            Story.refused("removeShape(" + bad + ")", CanvasEdgesTest::full, BAD_INDEX, x -> x.removeShape(bad));
        }
        for (int removed = 0; removed < 6; removed++) {
            PosterFitter x = new PosterFitter();
            for (int i = 0; i < 6; i++) {
                x.addShape(0, 0, i, i, i);
            }
            Check.due("removeShape(" + removed + ")", x.removeShape(removed), 5);
            for (int i = 0; i < 5; i++) {
                int cells = i < removed ? i + 1 : i + 2;
                x.moveShape(i, 40, 20);
                spans(x, i < removed ? i + 20 : i + 21, 1, cells, 40);
            }
            Check.due("behind the last one", x.moveShape(5, 0, 0), BAD_INDEX);
        }
    }

    private static void shapesLeft() {
        Check.sentence("Returns the number of shapes that are left; BAD_INDEX if there is no such shape.");
        PosterFitter last = full();
        PosterFitter first = full();
        for (int left = 5; left >= 0; left--) {
            Check.due("behind the last one", last.removeShape(left + 1), BAD_INDEX);
            Check.due("the last one of " + (left + 1), last.removeShape(left), left);
            Check.due("the first one of " + (left + 1), first.removeShape(0), left);
            Check.due("count(0)", last.count(0) + first.count(0), 2 * left);
        }
        Check.due("no cell is free", last.count(10) + first.count(10), 0);
        Check.due("the last one of none", last.removeShape(-1), BAD_INDEX);
    }

    private static void noShapes() {
        Check.sentence("Creates a poster without shapes and words");
        for (int shape : new int[] {0, -1, 1, MIN, MAX}) {
            Story.refused("removeShape(" + shape + ") of none", PosterFitter::new, BAD_INDEX, x -> x.removeShape(shape));
            Story.refused("moveShape(" + shape + ", 0, 0) of none", PosterFitter::new, BAD_INDEX, x -> x.moveShape(shape, 0, 0));
        }
        PosterFitter x = with(0, 0, 0, 3, 3);
        Check.due("removeShape(0), the only one", x.removeShape(0), 0);
        Check.due("no cell is free", x.count(10), 0);
        Check.due("removeShape(0) of none", x.removeShape(0), BAD_INDEX);
        Check.due("addShape is 0 again", x.addShape(0, 0, 0, 0, 0), 0);
    }

    private static void isFreeRanges() {
        Check.sentence("Returns 1 if it is, else 0; BAD_VALUE if x or y is out of range.");
        for (int bad : Check.outside(0, 47)) {
            Story.refused("isFree(" + bad + ", 0)", CanvasEdgesTest::two, BAD_VALUE, x -> x.isFree(bad, 0));
            Check.due("isFree(" + bad + ", 35)", two().isFree(bad, 35), BAD_VALUE);
        }
        for (int bad : Check.outside(0, 35)) {
            Story.refused("isFree(0, " + bad + ")", CanvasEdgesTest::two, BAD_VALUE, x -> x.isFree(0, bad));
            Check.due("isFree(47, " + bad + ")", two().isFree(47, bad), BAD_VALUE);
        }
        Story.told("isFree(3, 4)", CanvasEdgesTest::two, 1, x -> x.isFree(3, 4));
        Story.told("isFree(15, 15)", CanvasEdgesTest::two, 0, x -> x.isFree(15, 15));
    }

    private static void spanRanges() {
        Check.sentence("BAD_VALUE if the band is not on the canvas, or what is out of range.");
        for (int row = 0; row < 36; row++) {
            PosterFitter x = with(0, 0, 0, 47, 35);
            Check.due("span(" + row + ", " + (36 - row) + ", 0)", x.span(row, 36 - row, 0), 48);
            Check.due("span(" + row + ", " + (36 - row) + ", 1)", x.span(row, 36 - row, 1), 0);
            Check.due("span(" + row + ", " + (37 - row) + ", 0)", x.span(row, 37 - row, 0), BAD_VALUE);
            Check.due("span(" + row + ", " + (37 - row) + ", 1)", x.span(row, 37 - row, 1), BAD_VALUE);
            for (int bad : Check.outside(1, 36 - row)) {
                Check.due("span(" + row + ", " + bad + ", 0)", x.span(row, bad, 0), BAD_VALUE);
            }
        }
        int[][] wraps = {{MAX, MAX}, {MIN, MIN}, {MAX, 1}, {1, MAX}, {MIN, 1}, {MIN, MAX}, {MAX, MIN}, {-1, 1}, {-1, 2},
            {-1, 37}, {-36, 37}, {36, 1}, {36, 0}, {37, -1}, {0, 0}, {35, 0}, {-1, MIN}, {MIN + 1, MAX}, {5 - MAX, MAX}};
        for (int[] w : wraps) {
            for (int what = 0; what < 2; what++) {
                int asked = what;
                Story.refused("span(" + w[0] + ", " + w[1] + ", " + what + ")", CanvasEdgesTest::two, BAD_VALUE,
                        x -> x.span(w[0], w[1], asked));
            }
        }
        for (int bad : Check.outside(0, 1)) {
            Story.refused("span(5, 1, " + bad + ")", CanvasEdgesTest::two, BAD_VALUE, x -> x.span(5, 1, bad));
        }
    }

    private static void spanWithoutFreeColumns() {
        Check.sentence("0: its length (0 if no column is free)");
        PosterFitter x = new PosterFitter();
        for (int row = 0; row < 36; row++) {
            spans(x, row, 1, 0, -1);
            spans(x, row, 36 - row, 0, -1);
        }
        Check.sentence("NONE is returned only if no error applies.");
        Story.refused("a band below the canvas", PosterFitter::new, BAD_VALUE, y -> y.span(35, 2, 1));
        Story.refused("a band above the canvas", PosterFitter::new, BAD_VALUE, y -> y.span(-1, 1, 1));
        Story.refused("no rows", PosterFitter::new, BAD_VALUE, y -> y.span(0, 0, 1));
        Story.refused("no such what", PosterFitter::new, BAD_VALUE, y -> y.span(0, 1, 2));
        Check.sentence("NONE for what = 1 if there is no span");
        Story.told("span(0, 36, 1)", PosterFitter::new, -1, y -> y.span(0, 36, 1));
        Story.told("span(0, 36, 0)", PosterFitter::new, 0, y -> y.span(0, 36, 0));
    }
}

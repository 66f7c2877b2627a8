/** The sentences of the document that name an edge: weights, smoothing and marks (19 to 21). */
final class EdgesSmoothingTest {
    private static final Due due = new Due("EdgesSmoothingTest");
    private static final int BAD = -2000, LEAST = Integer.MIN_VALUE, MOST = Integer.MAX_VALUE;
    private static final String ZEROS = "00000000", ONES = "11111111";

    private EdgesSmoothingTest() {
    }

    public static void main(String[] args) {
        weightsAtFirst();
        weightsLeastAndMost();
        weighRefused();
        edgesForNothing();
        cellsForNothing();
        dearestBoard();
        noneCostsNothing();
        otherClassesCost();
        rowsAndColumnsAlone();
        ends();
        fewestOnes();
        classThatNoCellHas();
        boardOfOneClass();
        smoothRefused();
        markBeforeAny();
        markByTheLatest();
        markRefused();
        due.end();
    }

    private static String rows(String... rows) {
        StringBuilder text = new StringBuilder();
        for (int y = 0; y < 8; y++) {
            text.append(y < rows.length ? rows[y] : ZEROS);
        }
        return text.toString();
    }

    private static String times(int n, String row) {
        return row.repeat(n);
    }

    private static FieldTiles boardOf(String text) {
        FieldTiles x = Scene.fourClasses();
        Scene.board(x, 0, text);
        return x;
    }

    private static void marks(FieldTiles x, String want) {
        StringBuilder got = new StringBuilder();
        for (int c = 0; c < 64; c++) {
            got.append(x.mark(c));
        }
        due.holds("the marks are " + want + ", they are " + got, got.toString().equals(want));
    }

    private static void weightsAtFirst() {
        due.part("OWN (3 at first), EDGE (2 at first)");
        FieldTiles x = boardOf(rows("11000000", "11000000"));
        due.is("count(3)", x.count(3), 3);
        due.is("count(4)", x.count(4), 2);
        due.is("four edges of 2 against four cells of 3", x.smooth(0, 1), 8);
        marks(x, rows("11000000", "11000000"));
        x = boardOf(rows("10000000"));
        due.is("one cell of 3 against two edges of 2", x.smooth(0, 1), 3);
        marks(x, rows());
    }

    private static void weightsLeastAndMost() {
        due.part("OWN (told, 0 to 100), EDGE (0 to 100)");
        FieldTiles x = boardOf(rows("10000000"));
        for (int own : new int[] {0, 1, 99, 100}) {
            for (int edge : new int[] {0, 1, 99, 100}) {
                due.is("weigh(" + own + ", " + edge + ")", x.weigh(own, edge), 1);
                due.is("count(3)", x.count(3), own);
                due.is("count(4)", x.count(4), edge);
                due.is("smooth(0, 1)", x.smooth(0, 1), Math.min(own, 2 * edge));
                due.is("mark(0)", x.mark(0), own > 2 * edge ? 1 : 0);
            }
        }
    }

    private static void weighRefused() {
        due.part("weigh: BAD");
        FieldTiles x = new FieldTiles();
        x.weigh(7, 8);
        int[][] wrong = {{-1, 5}, {101, 5}, {LEAST, 5}, {MOST, 5}, {5, -1}, {5, 101}, {5, LEAST}, {5, MOST}, {-1, 101}};
        for (int[] w : wrong) {
            due.is("weigh(" + w[0] + ", " + w[1] + ")", x.weigh(w[0], w[1]), BAD);
            due.is("count(3)", x.count(3), 7);
            due.is("count(4)", x.count(4), 8);
        }
    }

    private static void edgesForNothing() {
        due.part("EDGE 0: each CELL as its CLASS");
        String board = rows("10101010", "01010101", "11001100", "00000001", "10000000", ZEROS, ZEROS, "10000001");
        FieldTiles x = boardOf(board);
        x.weigh(100, 0);
        due.is("smooth(0, 1)", x.smooth(0, 1), 0);
        marks(x, board);
        x.weigh(1, 0);
        due.is("smooth(0, 1)", x.smooth(0, 1), 0);
        marks(x, board);
    }

    private static void cellsForNothing() {
        due.part("OWN 0: no 1 at all");
        FieldTiles x = boardOf(times(8, ONES));
        x.weigh(0, 100);
        due.is("smooth(0, 1)", x.smooth(0, 1), 0);
        marks(x, rows());
        x.weigh(0, 0);
        due.is("smooth(0, 1)", x.smooth(0, 1), 0);
        marks(x, rows());
    }

    private static void dearestBoard() {
        due.part("the greatest COST");
        FieldTiles x = boardOf(times(4, "1010101001010101"));
        x.weigh(100, 100);
        due.is("32 cells of 100", x.smooth(0, 1), 3200);
        marks(x, rows());
        x.weigh(100, 26);
        due.is("2 corners of 52, 12 at the sides of 78, 18 cells of 100", x.smooth(0, 1), 104 + 936 + 1800);
        x.weigh(100, 24);
        due.is("112 edges of 24", x.smooth(0, 1), 2688);
        marks(x, times(4, "1010101001010101"));
    }

    private static void noneCostsNothing() {
        due.part("those with CLASS NONE cost nothing");
        FieldTiles x = boardOf(times(8, "........"));
        due.is("a board without classes", x.smooth(0, 1), 0);
        marks(x, rows());
        x = boardOf("1......1" + times(6, "........") + "1......1");
        due.is("four corners of 1", x.smooth(0, 1), 0);
        marks(x, times(8, ONES));
        x = boardOf(times(8, "1......0"));
        x.weigh(100, 1);
        due.is("the border costs 8 wherever it is: the fewest 1s", x.smooth(0, 1), 8);
        marks(x, times(8, "10000000"));
    }

    private static void otherClassesCost() {
        due.part("OWN for each CELL whose CLASS is another one and whose mark is 1");
        for (int other = 0; other < 4; other++) {
            if (other != 1) {
                // the cell in the midst is marked: 1 against four edges
                FieldTiles x = boardOf(times(3, ONES) + "111" + other + "1111" + times(4, ONES));
                x.weigh(1, 1);
                due.is("one of class " + other + " in the midst", x.smooth(0, 1), 1);
                marks(x, times(8, ONES));
                x.weigh(3, 1);
                due.is("still less than four edges", x.smooth(0, 1), 3);
                marks(x, times(8, ONES));
                x.weigh(5, 1);
                due.is("it is dearer now", x.smooth(0, 1), 4);
                marks(x, times(3, ONES) + "11101111" + times(4, ONES));
            }
        }
    }

    private static void rowsAndColumnsAlone() {
        due.part("each two CELLS next to one another in a row or a column");
        // cells 7 and 8 are not next to one another, nor are cells that touch at a corner
        FieldTiles x = boardOf(rows("00000001", "10000000"));
        x.weigh(100, 1);
        due.is("the last of a row, the first of the next", x.smooth(0, 1), 2 + 3);
        x = boardOf(rows(ZEROS, "01000000", "00100000"));
        x.weigh(100, 1);
        due.is("by a corner", x.smooth(0, 1), 4 + 4);
        x = boardOf(rows(ZEROS, "01100000"));
        x.weigh(100, 1);
        due.is("in a row", x.smooth(0, 1), 6);
        x = boardOf(rows(ZEROS, "01000000", "01000000"));
        x.weigh(100, 1);
        due.is("in a column", x.smooth(0, 1), 6);
        // the first and the last column, the first and the last row are not next to one another
        x = boardOf(rows(ZEROS, "10000001"));
        x.weigh(100, 1);
        due.is("the ends of a row", x.smooth(0, 1), 6);
        x = boardOf("01000000" + times(6, ZEROS) + "01000000");
        x.weigh(100, 1);
        due.is("the ends of a column", x.smooth(0, 1), 6);
    }

    /** One cell alone, in every place: it has 2, 3 or 4 neighbours. */
    private static void ends() {
        due.part("a CELL at an end has fewer next to it");
        for (int c = 0; c < 64; c++) {
            FieldTiles x = Scene.fourClasses();
            Scene.date(x, 0, 0, 0, 0);
            x.put(0, 2, c, 10);
            int around = 4 - (c % 8 == 0 || c % 8 == 7 ? 1 : 0) - (c < 8 || c > 55 ? 1 : 0);
            x.weigh(100, 1);
            due.is("cell " + c + " alone", x.smooth(0, 1), around);
            due.is("its mark", x.mark(c), 1);
            x.weigh(around, 1);
            due.is("cell " + c + ", either way", x.smooth(0, 1), around);
            due.is("its mark", x.mark(c), 0);
            due.is("all but cell " + c, x.smooth(0, 0), around);
            due.is("its mark", x.mark(c), 0);
            due.is("another's mark", x.mark(63 - c), 1);
        }
    }

    private static void fewestOnes() {
        due.part("of these those with the fewest 1s");
        // one half is of the class: 8 edges against 32 cells; with OWN and EDGE so that it is all one
        FieldTiles x = boardOf(times(4, ONES) + times(4, ZEROS));
        x.weigh(1, 4);
        due.is("32 either way", x.smooth(0, 1), 32);
        marks(x, rows());
        due.is("32 either way, the other class", x.smooth(0, 0), 32);
        marks(x, rows());
        // the rows between without a class go to neither
        x = boardOf(times(2, ONES) + times(4, "........") + times(2, ZEROS));
        x.weigh(100, 1);
        due.is("the border costs 8 in each of five places", x.smooth(0, 1), 8);
        marks(x, times(2, ONES) + times(6, ZEROS));
        due.is("the other class", x.smooth(0, 0), 8);
        marks(x, times(6, ZEROS) + times(2, ONES));
    }

    private static void classThatNoCellHas() {
        due.part("smooth for a CLASS that no CELL has");
        FieldTiles x = boardOf(times(8, ONES));
        due.is("class 2", x.smooth(0, 2), 0);
        marks(x, rows());
        due.is("on a date without readings", x.smooth(4, 1), 0);
        marks(x, rows());
    }

    private static void boardOfOneClass() {
        due.part("smooth for the CLASS that all CELLS have");
        FieldTiles x = boardOf(times(8, "33333333"));
        for (int weight : new int[] {1, 100}) {
            x.weigh(weight, 101 - weight);
            due.is("class 3", x.smooth(0, 3), 0);
            marks(x, times(8, ONES));
        }
    }

    private static void smoothRefused() {
        due.part("smooth: BAD");
        FieldTiles x = boardOf(times(8, ONES));
        x.smooth(0, 1);
        for (int date : Scene.WRONG_DATES) {
            due.is("date " + date, x.smooth(date, 1), BAD);
        }
        for (int k : Scene.WRONG_CLASSES) {
            due.is("class " + k, x.smooth(0, k), BAD);
        }
        marks(x, times(8, ONES));
        due.is("the first date, the first class", x.smooth(0, 0), 0);
        // date 5 has classes in four cells alone: that of class 3 costs OWN, or three edges
        due.is("the last date, the last class", x.smooth(5, 3), 3);
    }

    private static void markBeforeAny() {
        due.part("mark: 0 before any");
        FieldTiles x = boardOf(times(8, ONES));
        marks(x, rows());
        x.smooth(6, 1);
        x.smooth(0, -1);
        marks(x, rows());
    }

    private static void markByTheLatest() {
        due.part("The mark of a CELL by the latest smooth() that told one");
        FieldTiles x = boardOf(times(4, ONES) + times(4, ZEROS));
        x.smooth(0, 1);
        String first = times(4, ONES) + times(4, ZEROS);
        marks(x, first);
        // what changes behind it, and calls that are refused, leave the marks
        x.smooth(0, 4);
        x.smooth(-1, 1);
        x.paint(0, 0, 63, 30);
        x.weigh(0, 0);
        x.forget();
        marks(x, first);
        due.is("one that tells 0", x.smooth(0, 2), 0);
        marks(x, rows());
    }

    private static void markRefused() {
        due.part("mark: BAD");
        FieldTiles x = boardOf(times(8, ONES));
        x.smooth(0, 1);
        due.is("mark(0)", x.mark(0), 1);
        due.is("mark(63)", x.mark(63), 1);
        for (int c : Scene.WRONG_CELLS) {
            due.is("mark(" + c + ")", x.mark(c), BAD);
        }
        due.is("mark(65)", x.mark(65), BAD);
        due.is("mark(-64)", x.mark(-64), BAD);
    }
}

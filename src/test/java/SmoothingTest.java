/** Promises 19 to 21: weights, smoothing and marks. */
final class SmoothingTest {
    private static final Due due = new Due("SmoothingTest");
    private static final String ZEROS = "00000000";

    private SmoothingTest() {
    }

    public static void main(String[] args) {
        weigh();
        smoothSmall();
        smoothHoles();
        smoothNones();
        smoothTies();
        smoothLast();
        mark();
        due.end();
    }

    private static void marks(FieldTiles x, String want) {
        StringBuilder got = new StringBuilder();
        for (int c = 0; c < 64; c++) {
            got.append(x.mark(c));
        }
        due.holds("the marks are " + want + ", they are " + got, got.toString().equals(want));
    }

    private static FieldTiles boardOf(String... rows) {
        FieldTiles x = Scene.fourClasses();
        Scene.board(x, 0, rows(rows));
        return x;
    }

    private static String rows(String... rows) {
        StringBuilder text = new StringBuilder();
        for (int y = 0; y < 8; y++) {
            text.append(y < rows.length ? rows[y] : ZEROS);
        }
        return text.toString();
    }

    private static void weigh() {
        due.part("promise 19");
        FieldTiles x = boardOf("10000000");
        due.is("a corner at 3 and 2", x.smooth(0, 1), 3);
        due.is("weigh(5, 2)", x.weigh(5, 2), 1);
        due.is("count(3)", x.count(3), 5);
        due.is("count(4)", x.count(4), 2);
        due.is("a corner at 5 and 2", x.smooth(0, 1), 4);
        due.is("weigh(100, 100)", x.weigh(100, 100), 1);
        due.is("a corner at 100 and 100", x.smooth(0, 1), 100);
        due.is("weigh(0, 0)", x.weigh(0, 0), 1);
        due.is("a corner at 0 and 0", x.smooth(0, 1), 0);
        int[][] wrong = {{-1, 0}, {101, 0}, {0, -1}, {0, 101}, {Integer.MAX_VALUE, 0}, {0, Integer.MIN_VALUE}};
        for (int[] w : wrong) {
            due.is("weigh(" + w[0] + ", " + w[1] + ")", x.weigh(w[0], w[1]), -2000);
        }
        due.is("count(3)", x.count(3), 0);
        due.is("count(4)", x.count(4), 0);
    }

    private static void smoothSmall() {
        due.part("promise 20");
        FieldTiles x = boardOf(ZEROS, "01110000", "01110000", "01110000");
        // 9 cells of 3 against 12 edges of 2
        due.is("3 by 3", x.smooth(0, 1), 24);
        marks(x, rows(ZEROS, "01110000", "01110000", "01110000"));
        due.is("the other class", x.smooth(0, 0), 24);
        marks(x, rows("11111111", "10001111", "10001111", "10001111",
                "11111111", "11111111", "11111111", "11111111"));
        due.is("a class that no cell has", x.smooth(0, 2), 0);
        marks(x, rows());
        due.is("a date without readings", x.smooth(1, 0), 0);
        x.weigh(3, 0);
        due.is("edges for nothing", x.smooth(0, 1), 0);
        marks(x, rows(ZEROS, "01110000", "01110000", "01110000"));
        x.weigh(0, 9);
        due.is("cells for nothing", x.smooth(0, 1), 0);
        marks(x, rows());
        x.weigh(1, 100);
        due.is("edges that are dear", x.smooth(0, 1), 9);
        marks(x, rows());
        due.is("edges that are dear, the other class", x.smooth(0, 0), 9);
        marks(x, rows("11111111", "11111111", "11111111", "11111111",
                "11111111", "11111111", "11111111", "11111111"));
        for (int wrong : Scene.WRONG_DATES) {
            due.is("date " + wrong, x.smooth(wrong, 1), -2000);
        }
        for (int wrong : Scene.WRONG_CLASSES) {
            due.is("class " + wrong, x.smooth(0, wrong), -2000);
        }
        due.is("the marks stay", x.mark(0), 1);
    }

    private static void smoothHoles() {
        // the hole of one cell is filled for 3, its four edges would be 8
        FieldTiles x = boardOf("11110000", "11210000", "11110000", "11110000");
        due.is("a hole", x.smooth(0, 1), 3 + 8 * 2);
        marks(x, rows("11110000", "11110000", "11110000", "11110000"));
        x = boardOf("10101010", "01010101", "10101010", "01010101", "10101010", "01010101", "10101010", "01010101");
        x.weigh(100, 100);
        due.is("a chessboard, left alone", x.smooth(0, 1), 3200);
        marks(x, rows());
        x.weigh(100, 1);
        due.is("a chessboard, followed", x.smooth(0, 1), 112);
        due.is("its corner", x.mark(0), 1);
        due.is("the cell beside it", x.mark(1), 0);
        // rows and columns alone: the last of a row and the first of the next do not touch
        x = boardOf("00000001", "10000000");
        x.weigh(3, 1);
        due.is("two ends", x.smooth(0, 1), 2 + 3);
        marks(x, rows("00000001", "00000000"));
    }

    private static void smoothNones() {
        // cells without a class join two groups: they cost nothing themselves
        FieldTiles x = boardOf("11.11000", "11.11000", "11.11000");
        due.is("joined", x.smooth(0, 1), 2 * (3 + 5));
        marks(x, rows("11111000", "11111000", "11111000"));
        x.weigh(100, 0);
        due.is("not joined without edges", x.smooth(0, 1), 0);
        marks(x, rows("11011000", "11011000", "11011000"));
        x = boardOf("1.......", "........", "........", "........", "........", "........", "........", "........");
        due.is("one cell alone", x.smooth(0, 1), 0);
        due.is("the far corner", x.mark(63), 1);
        x.weigh(3, 0);
        due.is("one cell alone without edges", x.smooth(0, 1), 0);
        due.is("the far corner", x.mark(63), 0);
        due.is("the cell", x.mark(0), 1);
    }

    private static void smoothLast() {
        FieldTiles x = boardOf(ZEROS, ZEROS, ZEROS, ZEROS, ZEROS, ZEROS, ZEROS, "10000000");
        x.weigh(5, 2);
        due.is("the first cell of the last row", x.smooth(0, 1), 4);
        marks(x, rows(ZEROS, ZEROS, ZEROS, ZEROS, ZEROS, ZEROS, ZEROS, "10000000"));
        x = boardOf(ZEROS, ZEROS, ZEROS, ZEROS, ZEROS, ZEROS, ZEROS, "00000001");
        x.weigh(5, 2);
        due.is("the last cell", x.smooth(0, 1), 4);
        marks(x, rows(ZEROS, ZEROS, ZEROS, ZEROS, ZEROS, ZEROS, ZEROS, "00000001"));
        x.weigh(1, 1);
        due.is("one cell at 1 and 1", x.smooth(0, 1), 1);
        marks(x, rows());
    }

    private static void smoothTies() {
        // a corner: 2 edges of 2 are 4, so is OWN: the fewest 1s
        FieldTiles x = boardOf("10000000");
        x.weigh(4, 2);
        due.is("a corner, either way", x.smooth(0, 1), 4);
        marks(x, rows());
        due.is("all but a corner, either way", x.smooth(0, 0), 4);
        due.is("the corner stays out", x.mark(0), 0);
        due.is("the others", x.mark(1), 1);
        x = boardOf("11000000", "11000000");
        x.weigh(2, 2);
        due.is("four in a corner, either way", x.smooth(0, 1), 8);
        marks(x, rows());
        x.weigh(3, 3);
        x.put(0, 2, 0, 0);
        due.is("three in a corner", x.smooth(0, 1), 9);
        marks(x, rows());
    }

    private static void mark() {
        due.part("promise 21");
        FieldTiles x = boardOf("11110000", "11110000");
        for (int c = 0; c < 64; c++) {
            due.is("mark(" + c + ") before any", x.mark(c), 0);
        }
        due.is("smooth(0, 1)", x.smooth(0, 1), 12);
        String want = rows("11110000", "11110000");
        marks(x, want);
        x.smooth(6, 1);
        x.smooth(0, 4);
        x.smooth(-1, -1);
        marks(x, want);
        x.forget();
        x.lose(0);
        x.weigh(0, 0);
        marks(x, want);
        x.smooth(0, 1);
        marks(x, rows());
        for (int wrong : Scene.WRONG_CELLS) {
            due.is("mark(" + wrong + ")", x.mark(wrong), -2000);
        }
        x = boardOf("00000000", "00000000", "00000000", "00000000", "11111111", "11111111", "11111111", "11111111");
        x.smooth(0, 1);
        due.is("mark(31)", x.mark(31), 0);
        due.is("mark(32)", x.mark(32), 1);
        due.is("mark(63)", x.mark(63), 1);
    }
}

/** Promises 1 to 7: a new object, and the reels. */
final class ReelsTest {
    private static final Due due = new Due("ReelsTest");
    private static final int LEAST = Integer.MIN_VALUE;
    private static final int NULL = -11, INDEX = -12, CAST = -13, STORE = -14, SIZE = -15;

    private ReelsTest() {
    }

    public static void main(String[] args) {
        newObject();
        reel();
        lose();
        put();
        get();
        copy();
        copyRefused();
        paint();
        due.end();
    }

    private static void newObject() {
        due.part("promise 1");
        FieldTiles x = new FieldTiles();
        int[] counts = {0, 2, 0, 3, 2, 0, 0, 900, 2};
        for (int what = 0; what < counts.length; what++) {
            due.is("count(" + what + ")", x.count(what), counts[what]);
        }
        due.is("teaching()", x.teaching(), 0);
        due.is("forget()", x.forget(), 0);
        for (int date = 0; date < 6; date++) {
            FieldTiles y = new FieldTiles();
            for (int c = 0; c < 64; c++) {
                due.is("mark(" + c + ")", y.mark(c), 0);
                due.is("sky(" + date + ", " + c + ")", y.sky(date, c), 0);
                due.is("kind(" + date + ", " + c + ")", y.kind(date, c), -1);
            }
        }
        for (int i = 0; i < 4; i++) {
            for (int j = 0; j < 4; j++) {
                due.is("prove(" + i + ", " + j + ", 1)", x.prove(i, j, 1), 1);
            }
        }
        for (int r = 0; r < 18; r++) {
            due.is("lose(" + r + ")", x.lose(r), NULL);
        }
    }

    private static void reel() {
        due.part("promise 2");
        FieldTiles x = new FieldTiles();
        for (int r = 0; r < 18; r++) {
            due.is("reel(" + r + ")", x.reel(r, r % 3, 47 + r), 47 + r);
            due.is("count(5)", x.count(5), r + 1);
        }
        due.is("get of the last item", x.get(17, 2, 63), 0);
        due.is("reel of 0 items", x.reel(0, 0, 0), 0);
        due.is("it is not lost", x.count(5), 18);
        due.is("it has no item", x.put(0, 0, 0, 1), INDEX);
        x.paint(5, 0, 50, 7);
        due.is("reel anew", x.reel(5, 2, 64), 64);
        due.is("its items are 0", x.get(5, 2, 50), 0);
        due.is("another form", x.reel(5, 1, 10), 10);
        due.is("it has that form", x.put(5, 1, 9, 3), 1);
        due.is("it has no more", x.put(5, 1, 10, 3), INDEX);
        due.is("below 0", x.reel(5, 1, -1), SIZE);
        due.is("count(6)", x.count(6), 5);
        due.is("far below 0", x.reel(5, 1, LEAST), SIZE);
        due.is("the row stays", x.get(5, 1, 9), 3);
        due.is("on a lost reel", new FieldTiles().reel(5, 1, -1), SIZE);

        FieldTiles y = new FieldTiles();
        for (int wrong : Scene.WRONG_REELS) {
            due.is("reel(" + wrong + ")", y.reel(wrong, 0, 1), -2000);
            due.is("BAD ahead of SIZE", y.reel(wrong, 0, -1), -2000);
        }
        for (int wrong : Scene.WRONG_FORMS) {
            due.is("form " + wrong, y.reel(0, wrong, 1), -2000);
            due.is("BAD ahead of SIZE", y.reel(0, wrong, -1), -2000);
        }
        due.is("65 items", y.reel(0, 0, 65), -2000);
        due.is("many items", y.reel(0, 0, Integer.MAX_VALUE), -2000);
        due.is("BAD is no finding", y.count(6), 0);
        due.is("nothing was made", y.count(5), 0);
    }

    private static void lose() {
        due.part("promise 3");
        FieldTiles x = new FieldTiles();
        x.reel(0, 0, 0);
        x.reel(17, 2, 64);
        due.is("lose(0)", x.lose(0), 0);
        due.is("lose(17)", x.lose(17), 64);
        due.is("count(5)", x.count(5), 0);
        due.is("count(6)", x.count(6), 0);
        due.is("lose(17) again", x.lose(17), NULL);
        due.is("count(6)", x.count(6), 1);
        due.is("put on it", x.put(17, 2, 0, 1), NULL);
        for (int wrong : Scene.WRONG_REELS) {
            due.is("lose(" + wrong + ")", x.lose(wrong), -2000);
        }
        Scene.date(x, 0, 5, 5, 5);
        due.is("sky(0, 0)", x.sky(0, 0), 3);
        x.lose(1);
        due.is("sky(0, 0) without its reel", x.sky(0, 0), 0);
    }

    private static void putAndGet(FieldTiles x, int form, int v, int kept) {
        due.is("put of " + v, x.put(form, form, 3, v), 1);
        due.is("get in form " + form + " of " + v, x.get(form, form, 3), kept);
    }

    private static void put() {
        due.part("promise 4");
        FieldTiles x = new FieldTiles();
        for (int form = 0; form < 3; form++) {
            x.reel(form, form, 4);
            for (int v : new int[] {0, 1, -1, 127, -128}) {
                putAndGet(x, form, v, v);
            }
            for (int v : new int[] {128, 255, 256, 300, -129, 32767, 32768, 65535, 65536, -32769, 0x12345678,
                    Integer.MAX_VALUE, LEAST}) {
                putAndGet(x, form, v, form == 0 ? (byte) v : form == 1 ? (short) v : v);
            }
            due.is("the item ahead", x.get(form, form, 2), 0);
        }
        putAndGet(x, 0, 200, -56);
        putAndGet(x, 1, 40000, -25536);

        due.is("another form", x.put(0, 1, 0, 5), CAST);
        due.is("count(6)", x.count(6), 3);
        due.is("CAST ahead of INDEX", x.put(0, 2, -1, 5), CAST);
        for (int wrong : new int[] {-1, 4, 64, Integer.MAX_VALUE, LEAST}) {
            due.is("item " + wrong, x.put(0, 0, wrong, 5), INDEX);
            due.is("NULL ahead of INDEX", x.put(9, 0, wrong, 5), NULL);
        }
        x.put(0, 0, 4, 5);
        due.is("count(6)", x.count(6), 2);
        x.put(9, 0, 0, 5);
        due.is("count(6)", x.count(6), 1);
        x.put(0, 0, 4, 5);
        for (int wrong : Scene.WRONG_REELS) {
            due.is("reel " + wrong, x.put(wrong, 0, 0, 5), -2000);
        }
        for (int wrong : Scene.WRONG_FORMS) {
            due.is("form " + wrong, x.put(0, wrong, 0, 5), -2000);
            due.is("BAD ahead of NULL", x.put(9, wrong, 0, 5), -2000);
        }
        due.is("BAD is no finding", x.count(6), 2);
        due.is("nothing was put", x.get(0, 0, 0), 0);
    }

    private static void get() {
        due.part("promise 5");
        FieldTiles x = new FieldTiles();
        x.reel(4, 1, 3);
        x.put(4, 1, 0, 11);
        x.put(4, 1, 2, -13);
        due.is("get(4, 1, 0)", x.get(4, 1, 0), 11);
        due.is("get(4, 1, 1)", x.get(4, 1, 1), 0);
        due.is("get(4, 1, 2)", x.get(4, 1, 2), -13);
        for (int wrong : Scene.WRONG_REELS) {
            due.is("reel " + wrong, x.get(wrong, 1, 0), LEAST);
        }
        for (int wrong : Scene.WRONG_FORMS) {
            due.is("form " + wrong, x.get(4, wrong, 0), LEAST);
        }
        due.is("BAD is no finding", x.count(6), 0);
        due.is("another form", x.get(4, 0, 3), LEAST);
        due.is("count(6)", x.count(6), 3);
        for (int wrong : new int[] {-1, 3, 64, Integer.MAX_VALUE, LEAST}) {
            due.is("item " + wrong, x.get(4, 1, wrong), LEAST);
            due.is("count(6)", x.count(6), 2);
            due.is("item " + wrong + " of a lost reel", x.get(5, 1, wrong), LEAST);
            due.is("count(6)", x.count(6), 1);
        }
    }

    private static FieldTiles numbered(int n) {
        FieldTiles x = new FieldTiles();
        x.reel(0, 2, n);
        for (int i = 0; i < n; i++) {
            x.put(0, 2, i, i + 1);
        }
        return x;
    }

    private static void row(FieldTiles x, int r, int... want) {
        for (int i = 0; i < want.length; i++) {
            due.is("item " + i + " of reel " + r, x.get(r, 2, i), want[i]);
        }
    }

    private static void copy() {
        due.part("promise 6");
        FieldTiles x = numbered(5);
        x.reel(17, 2, 8);
        due.is("to another reel", x.copy(0, 1, 17, 3, 4), 1);
        row(x, 17, 0, 0, 0, 2, 3, 4, 5, 0);
        due.is("forward over itself", x.copy(0, 0, 0, 1, 4), 1);
        row(x, 0, 1, 1, 2, 3, 4);
        x = numbered(5);
        due.is("back over itself", x.copy(0, 1, 0, 0, 4), 1);
        row(x, 0, 2, 3, 4, 5, 5);
        due.is("onto itself", x.copy(0, 0, 0, 0, 5), 1);
        due.is("nothing, at the ends", x.copy(0, 5, 0, 5, 0), 1);
        row(x, 0, 2, 3, 4, 5, 5);
        x.reel(1, 0, 2);
        x.reel(2, 0, 2);
        x.paint(1, 0, 1, -7);
        due.is("bytes", x.copy(1, 0, 2, 1, 1), 1);
        due.is("the first byte", x.get(2, 0, 0), 0);
        due.is("the second byte", x.get(2, 0, 1), -7);
        due.is("count(6)", x.count(6), 0);

        FieldTiles y = new FieldTiles();
        Scene.date(y, 0, 5, 5, 5);
        y.put(0, 2, 9, 950);
        due.is("sky(0, 0)", y.sky(0, 0), 3);
        y.copy(0, 9, 0, 0, 1);
        due.is("sky(0, 0) with the copied reading", y.sky(0, 0), 1);
    }

    private static void copyRefused() {
        FieldTiles x = numbered(5);
        x.reel(1, 1, 5);
        x.reel(2, 2, 3);
        for (int wrong : Scene.WRONG_REELS) {
            due.is("from reel " + wrong, x.copy(wrong, 0, 9, 0, 1), -2000);
            due.is("to reel " + wrong, x.copy(9, 0, wrong, 0, 1), -2000);
        }
        due.is("BAD is no finding", x.count(6), 0);
        due.is("from a lost reel", x.copy(9, 0, 0, 0, 1), NULL);
        due.is("to a lost reel", x.copy(0, 0, 9, 0, 1), NULL);
        due.is("NULL ahead of INDEX", x.copy(0, -1, 9, 0, 1), NULL);
        due.is("count(6)", x.count(6), 1);
        due.is("unlike forms", x.copy(0, 0, 1, 0, 1), STORE);
        due.is("unlike forms, nothing to copy", x.copy(0, 0, 1, 0, 0), STORE);
        due.is("STORE ahead of INDEX", x.copy(0, 0, 1, 0, -1), STORE);
        due.is("count(6)", x.count(6), 4);
        int max = Integer.MAX_VALUE;
        int[][] wrong = {{-1, 0, 1}, {0, -1, 1}, {0, 0, -1}, {0, 0, 4}, {3, 0, 3}, {0, 1, 3}, {6, 0, 0}, {0, 4, 0},
            {max, 0, 1}, {0, max, 1}, {1, 1, max}, {LEAST, 0, 1}, {0, LEAST, 1}, {0, 0, LEAST}, {max, max, max},
            {-1, -1, 0}, {5, 0, 1}, {0, 3, 1}};
        for (int[] w : wrong) {
            due.is("copy of " + w[2] + " from " + w[0] + " to " + w[1], x.copy(0, w[0], 2, w[1], w[2]), INDEX);
            due.is("count(6)", x.count(6), 2);
        }
        row(x, 2, 0, 0, 0);
        due.is("onto itself, too many", x.copy(0, 1, 0, 0, 5), INDEX);
        row(x, 0, 1, 2, 3, 4, 5);
    }

    private static void paint() {
        due.part("promise 7");
        FieldTiles x = new FieldTiles();
        x.reel(0, 2, 64);
        due.is("all", x.paint(0, 0, 63, 70000), 64);
        due.is("one", x.paint(0, 5, 5, -3), 1);
        due.is("the first", x.get(0, 2, 0), 70000);
        due.is("item 4", x.get(0, 2, 4), 70000);
        due.is("item 5", x.get(0, 2, 5), -3);
        due.is("item 6", x.get(0, 2, 6), 70000);
        due.is("the last", x.get(0, 2, 63), 70000);
        x.reel(1, 0, 10);
        due.is("bytes", x.paint(1, 2, 9, 456), 8);
        due.is("the byte", x.get(1, 0, 9), -56);
        due.is("the byte ahead", x.get(1, 0, 1), 0);
        x.reel(2, 1, 10);
        due.is("shorts", x.paint(2, 0, 9, 65000), 10);
        due.is("the short", x.get(2, 1, 0), -536);
        due.is("count(6)", x.count(6), 0);

        due.is("too many", x.paint(1, 0, 10, 5), INDEX);
        due.is("nothing is done", x.get(1, 0, 0), 0);
        due.is("count(6)", x.count(6), 2);
        due.is("all behind the end", x.paint(1, 63, 63, 5), INDEX);
        due.is("a lost reel", x.paint(3, 0, 63, 5), NULL);
        due.is("count(6)", x.count(6), 1);
        for (int wrong : Scene.WRONG_REELS) {
            due.is("reel " + wrong, x.paint(wrong, 0, 0, 5), -2000);
        }
        due.is("from below 0", x.paint(0, -1, 5, 5), -2000);
        due.is("from above to", x.paint(0, 6, 5, 5), -2000);
        due.is("to above 63", x.paint(0, 0, 64, 5), -2000);
        due.is("to far above", x.paint(0, 0, Integer.MAX_VALUE, 5), -2000);
        due.is("BAD ahead of NULL", x.paint(3, 1, 0, 5), -2000);
        due.is("BAD is no finding", x.count(6), 1);
        due.is("nothing was painted", x.get(0, 2, 0), 70000);
    }
}

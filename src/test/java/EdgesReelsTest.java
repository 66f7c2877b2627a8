/** The sentences of the document that name an edge: the reels and their findings (promises 1 to 7). */
final class EdgesReelsTest {
    private static final Due due = new Due("EdgesReelsTest");
    private static final int BAD = -2000, NULL = -11, INDEX = -12, CAST = -13, STORE = -14, SIZE = -15;
    private static final int LEAST = Integer.MIN_VALUE, MOST = Integer.MAX_VALUE;

    private EdgesReelsTest() {
    }

    public static void main(String[] args) {
        lostAtFirst();
        numbersOfReels();
        forms();
        sizes();
        zeroAtFirst();
        itemOfItsCell();
        numbersOfFindings();
        newRow();
        loseAnEmptyRow();
        loseTwice();
        lowestBits();
        putAtTheEnds();
        putRefusedInOrder();
        getTheLeastInt();
        getRefused();
        copyNothing();
        copyAll();
        copyAsTheyWere();
        copyBelowZero();
        copyNotSoMany();
        copySumsThatWrap();
        copyRefusedInOrder();
        paintOneAndAll();
        paintLowestBits();
        paintNotSoMany();
        paintRefusedInOrder();
        due.end();
    }

    private static FieldTiles with(int r, int form, int n) {
        FieldTiles x = new FieldTiles();
        x.reel(r, form, n);
        return x;
    }

    private static void lostAtFirst() {
        due.part("All REELS are LOST");
        FieldTiles x = new FieldTiles();
        due.is("count(5)", x.count(5), 0);
        due.is("count(6), before any", x.count(6), 0);
        for (int r = 0; r < 18; r++) {
            due.is("put(" + r + ")", x.put(r, 0, 0, 1), NULL);
            due.is("paint(" + r + ")", x.paint(r, 0, 0, 1), NULL);
            due.is("lose(" + r + ")", x.lose(r), NULL);
        }
    }

    private static void numbersOfReels() {
        due.part("BAND b of DATE d is REEL 3 d and b (0 .. 17)");
        for (int r = 0; r < 18; r++) {
            FieldTiles x = new FieldTiles();
            Scene.date(x, r / 3, 5, 5, 5);
            due.is("put on reel " + r, x.put(r, 2, 40, 77), 1);
            for (int band = 0; band < 3; band++) {
                due.is("band " + band + " by reel " + r, x.feature(r / 3, 40, band), band == r % 3 ? 77 : 5);
            }
        }
        FieldTiles y = new FieldTiles();
        for (int r : Scene.WRONG_REELS) {
            due.is("reel(" + r + ")", y.reel(r, 0, 1), BAD);
            due.is("lose(" + r + ")", y.lose(r), BAD);
            due.is("put(" + r + ")", y.put(r, 0, 0, 1), BAD);
            due.is("get(" + r + ")", y.get(r, 0, 0), LEAST);
            due.is("copy(" + r + " to 0)", y.copy(r, 0, 0, 0, 1), BAD);
            due.is("copy(0 to " + r + ")", y.copy(0, 0, r, 0, 1), BAD);
            due.is("paint(" + r + ")", y.paint(r, 0, 0, 1), BAD);
        }
        due.is("none of them is a finding", y.count(6), 0);
    }

    private static void forms() {
        due.part("a row of a FORM: 0 bytes, 1 shorts, 2 ints");
        for (int form = 0; form < 3; form++) {
            FieldTiles x = new FieldTiles();
            due.is("reel of form " + form, x.reel(0, form, 1), 1);
            for (int other = 0; other < 3; other++) {
                due.is("form " + form + " as " + other, x.put(0, other, 0, 9), form == other ? 1 : CAST);
                due.is("form " + form + " told as " + other, x.get(0, other, 0), form == other ? 9 : LEAST);
                x.put(0, form, 0, 9);
            }
        }
        FieldTiles x = with(0, 0, 1);
        for (int form : Scene.WRONG_FORMS) {
            due.is("reel of form " + form, x.reel(0, form, 1), BAD);
            due.is("put as form " + form, x.put(0, form, 0, 1), BAD);
            due.is("get as form " + form, x.get(0, form, 0), LEAST);
        }
        due.is("none of them is a finding", x.count(6), 0);
        due.is("the row stays", x.lose(0), 1);
    }

    private static void sizes() {
        due.part("of 0 to 64 items; BAD: above 64; SIZE: below 0");
        for (int n : new int[] {0, 1, 63, 64}) {
            FieldTiles x = new FieldTiles();
            due.is("reel of " + n, x.reel(3, 1, n), n);
            due.is("count(5)", x.count(5), 1);
            due.is("the item behind its end", x.put(3, 1, n, 1), INDEX);
            due.is("lose", x.lose(3), n);
        }
        FieldTiles x = with(3, 1, 7);
        for (int n : new int[] {65, 66, MOST}) {
            due.is("reel of " + n, x.reel(3, 1, n), BAD);
        }
        due.is("above 64 is no finding", x.count(6), 0);
        for (int n : new int[] {-1, -2, -64, LEAST}) {
            due.is("reel of " + n, x.reel(3, 1, n), SIZE);
        }
        due.is("below 0 is finding 5", x.count(6), 5);
        due.is("the row stays", x.lose(3), 7);
        due.is("SIZE where it is lost", x.reel(3, 1, -1), SIZE);
        due.is("it stays lost", x.count(5), 0);
        due.is("BAD ahead of SIZE: the reel", x.reel(18, 1, -1), BAD);
        due.is("BAD ahead of SIZE: the form", x.reel(3, 3, -1), BAD);
    }

    private static void zeroAtFirst() {
        due.part("items (0 at first)");
        for (int form = 0; form < 3; form++) {
            FieldTiles x = with(9, form, 64);
            for (int i = 0; i < 64; i++) {
                due.is("item " + i, x.get(9, form, i), 0);
            }
            x.paint(9, 0, 63, 7);
            x.reel(9, form, 3);
            x.reel(9, form, 64);
            due.is("the first, made shorter and longer", x.get(9, form, 0), 0);
            due.is("the fourth, made shorter and longer", x.get(9, form, 3), 0);
            due.is("the last, made shorter and longer", x.get(9, form, 63), 0);
            x.paint(9, 0, 63, 7);
            x.lose(9);
            x.reel(9, form, 64);
            due.is("the first, lost and made", x.get(9, form, 0), 0);
            due.is("the last, lost and made", x.get(9, form, 63), 0);
        }
    }

    private static void itemOfItsCell() {
        due.part("item c of CELL c");
        for (int n : new int[] {0, 1, 8, 63, 64}) {
            FieldTiles x = new FieldTiles();
            for (int band = 0; band < 3; band++) {
                x.reel(band, 0, n);
            }
            for (int c = 0; c < 64; c++) {
                due.is("sky of cell " + c + " with " + n + " items", x.sky(0, c), c < n ? 3 : 0);
            }
        }
        FieldTiles x = new FieldTiles();
        Scene.date(x, 0, 5, 5, 5);
        x.put(1, 2, 0, 6);
        x.put(1, 2, 63, 7);
        due.is("cell 0", x.feature(0, 0, 1), 6);
        due.is("cell 1", x.feature(0, 1, 1), 5);
        due.is("cell 62", x.feature(0, 62, 1), 5);
        due.is("cell 63", x.feature(0, 63, 1), 7);
    }

    private static void numbersOfFindings() {
        due.part("FINDINGS (answers -10 less the number; they change nothing but count() 6)");
        FieldTiles x = with(0, 0, 1);
        x.reel(1, 1, 1);
        due.is("NULL", x.lose(2), -11);
        due.is("count(6)", x.count(6), 1);
        due.is("INDEX", x.put(0, 0, 1, 1), -12);
        due.is("count(6)", x.count(6), 2);
        due.is("CAST", x.put(0, 1, 0, 1), -13);
        due.is("count(6)", x.count(6), 3);
        due.is("STORE", x.copy(0, 0, 1, 0, 1), -14);
        due.is("count(6)", x.count(6), 4);
        due.is("SIZE", x.reel(0, 0, -1), -15);
        due.is("count(6)", x.count(6), 5);
        x.put(0, 0, 0, 1);
        x.lose(18);
        due.is("what is done, and BAD, leave it", x.count(6), 5);
    }

    private static void newRow() {
        due.part("A REEL is a new row of a FORM with n items");
        FieldTiles x = with(6, 2, 64);
        x.paint(6, 0, 63, 7);
        due.is("as bytes, shorter", x.reel(6, 0, 2), 2);
        due.is("not as ints any more", x.put(6, 2, 0, 1), CAST);
        due.is("not the third any more", x.put(6, 0, 2, 1), INDEX);
        due.is("the second", x.get(6, 0, 1), 0);
        due.is("as many reels", x.count(5), 1);
    }

    private static void loseAnEmptyRow() {
        due.part("lose: how many items it had");
        FieldTiles x = with(0, 1, 0);
        due.is("an empty row is not LOST", x.count(5), 1);
        due.is("lose of an empty row", x.lose(0), 0);
        due.is("it is LOST now", x.count(5), 0);
        due.is("no finding so far", x.count(6), 0);
        for (int n : new int[] {1, 63, 64}) {
            x.reel(17, 2, n);
            due.is("lose of " + n, x.lose(17), n);
        }
    }

    private static void loseTwice() {
        due.part("lose: NULL");
        FieldTiles x = with(17, 1, 4);
        x.reel(16, 1, 5);
        due.is("once", x.lose(17), 4);
        due.is("twice", x.lose(17), NULL);
        due.is("the other reel", x.lose(16), 5);
    }

    private static void bits(int form, int v, int kept) {
        FieldTiles x = with(0, form, 3);
        due.is("put of " + v + " in form " + form, x.put(0, form, 1, v), 1);
        due.is("get of " + v + " in form " + form, x.get(0, form, 1), kept);
        due.is("the item ahead", x.get(0, form, 0), 0);
        due.is("the item behind", x.get(0, form, 2), 0);
    }

    private static void lowestBits() {
        due.part("put: becomes v (the lowest bits that it has)");
        int[][] bytes = {{127, 127}, {128, -128}, {255, -1}, {256, 0}, {257, 1}, {-128, -128}, {-129, 127},
            {MOST, -1}, {LEAST, 0}, {0x12345678, 0x78}, {0x123456f8, -8}};
        int[][] shorts = {{128, 128}, {32767, 32767}, {32768, -32768}, {65535, -1}, {65536, 0}, {-32768, -32768},
            {-32769, 32767}, {MOST, -1}, {LEAST, 0}, {0x12345678, 0x5678}, {0x1234f678, 0xf678 - 65536}};
        int[][] ints = {{128, 128}, {32768, 32768}, {65536, 65536}, {-32769, -32769}, {MOST, MOST}, {LEAST, LEAST}};
        int[][][] all = {bytes, shorts, ints};
        for (int form = 0; form < 3; form++) {
            for (int[] pair : all[form]) {
                bits(form, pair[0], pair[1]);
            }
        }
    }

    private static void putAtTheEnds() {
        due.part("put: INDEX");
        for (int n : new int[] {0, 1, 5, 64}) {
            FieldTiles x = with(2, 1, n);
            for (int i : new int[] {-1, LEAST, n, n + 1, 64, MOST}) {
                due.is("item " + i + " of " + n, x.put(2, 1, i, 3), INDEX);
                due.is("count(6)", x.count(6), 2);
            }
            if (n > 0) {
                due.is("the first of " + n, x.put(2, 1, 0, 3), 1);
                due.is("the last of " + n, x.put(2, 1, n - 1, 4), 1);
                due.is("the last of " + n, x.get(2, 1, n - 1), 4);
            }
        }
    }

    private static void putRefusedInOrder() {
        due.part("put: BAD; NULL; CAST; INDEX");
        FieldTiles x = with(0, 0, 4);
        due.is("BAD ahead of NULL", x.put(1, 3, 9, 1), BAD);
        due.is("BAD ahead of CAST and INDEX", x.put(0, -1, 9, 1), BAD);
        due.is("count(6)", x.count(6), 0);
        due.is("NULL ahead of INDEX", x.put(1, 0, 9, 1), NULL);
        due.is("CAST ahead of INDEX", x.put(0, 1, 9, 1), CAST);
        due.is("CAST ahead of INDEX below 0", x.put(0, 2, -1, 1), CAST);
        due.is("INDEX", x.put(0, 0, 9, 1), INDEX);
        x.lose(0);
        due.is("NULL ahead of CAST, of a row that was", x.put(0, 1, 0, 1), NULL);
    }

    private static void getTheLeastInt() {
        due.part("get: Item i of it");
        FieldTiles x = with(0, 2, 2);
        x.put(0, 2, 1, LEAST);
        due.is("an item that is the least int", x.get(0, 2, 1), LEAST);
        due.is("it is no finding", x.count(6), 0);
        x.put(0, 2, 0, MOST);
        due.is("an item that is the greatest int", x.get(0, 2, 0), MOST);
        x.put(0, 2, 0, BAD);
        due.is("an item that looks like BAD", x.get(0, 2, 0), BAD);
    }

    private static void getRefused() {
        due.part("get: BAD: the least int; so are NULL, CAST, INDEX (count() 6 tells)");
        FieldTiles x = with(0, 1, 4);
        due.is("BAD: the reel", x.get(18, 1, 0), LEAST);
        due.is("BAD: the form", x.get(0, 3, 0), LEAST);
        due.is("BAD ahead of NULL", x.get(1, 3, 0), LEAST);
        due.is("BAD is no finding", x.count(6), 0);
        due.is("NULL, ahead of INDEX", x.get(1, 1, 4), LEAST);
        due.is("count(6)", x.count(6), 1);
        due.is("CAST, ahead of INDEX", x.get(0, 2, 4), LEAST);
        due.is("count(6)", x.count(6), 3);
        due.is("INDEX: too great", x.get(0, 1, 4), LEAST);
        due.is("count(6)", x.count(6), 2);
        x.lose(9);
        due.is("INDEX: below 0", x.get(0, 1, -1), LEAST);
        due.is("count(6)", x.count(6), 2);
        x.reel(2, 0, 0);
        x.lose(9);
        due.is("INDEX: of an empty row", x.get(2, 0, 0), LEAST);
        due.is("count(6)", x.count(6), 2);
        x.reel(0, 0, -1);
        due.is("get that is told", x.get(0, 1, 3), 0);
        due.is("count(6) stays", x.count(6), 5);
    }

    /** Reel 0 has n ints 1, 2, 3, ..; reel 1 has m ints 0. */
    private static FieldTiles numbered(int n, int m) {
        FieldTiles x = with(0, 2, n);
        for (int i = 0; i < n; i++) {
            x.put(0, 2, i, i + 1);
        }
        x.reel(1, 2, m);
        return x;
    }

    private static void row(FieldTiles x, int r, int... want) {
        for (int i = 0; i < want.length; i++) {
            due.is("item " + i + " of reel " + r, x.get(r, 2, i), want[i]);
        }
    }

    private static void copyNothing() {
        due.part("copy of 0 items");
        FieldTiles x = numbered(3, 2);
        due.is("from the start to the start", x.copy(0, 0, 1, 0, 0), 1);
        due.is("from the end to the end", x.copy(0, 3, 1, 2, 0), 1);
        due.is("from behind the end", x.copy(0, 4, 1, 0, 0), INDEX);
        due.is("to behind the end", x.copy(0, 0, 1, 3, 0), INDEX);
        row(x, 1, 0, 0);
        x.reel(2, 2, 0);
        due.is("from an empty row", x.copy(2, 0, 1, 0, 0), 1);
        due.is("to an empty row", x.copy(0, 0, 2, 0, 0), 1);
        due.is("one from an empty row", x.copy(2, 0, 1, 0, 1), INDEX);
        due.is("one to an empty row", x.copy(0, 0, 2, 0, 1), INDEX);
    }

    private static void copyAll() {
        due.part("copy of whole rows");
        FieldTiles x = numbered(64, 64);
        due.is("64 items", x.copy(0, 0, 1, 0, 64), 1);
        due.is("the first", x.get(1, 2, 0), 1);
        due.is("the last", x.get(1, 2, 63), 64);
        due.is("65 items", x.copy(0, 0, 1, 0, 65), INDEX);
        due.is("the last one alone", x.copy(0, 63, 1, 0, 1), 1);
        due.is("the first", x.get(1, 2, 0), 64);
        due.is("the second", x.get(1, 2, 1), 2);
        due.is("onto the last", x.copy(0, 0, 1, 63, 1), 1);
        due.is("the last", x.get(1, 2, 63), 1);
        due.is("the one ahead of it", x.get(1, 2, 62), 63);
        due.is("reel 0 stays", x.get(0, 2, 63), 64);
    }

    private static void copyAsTheyWere() {
        due.part("copy: to REEL q (perhaps r, as they were)");
        FieldTiles x = numbered(6, 1);
        due.is("one on", x.copy(0, 0, 0, 1, 5), 1);
        row(x, 0, 1, 1, 2, 3, 4, 5);
        x = numbered(6, 1);
        due.is("one back", x.copy(0, 1, 0, 0, 5), 1);
        row(x, 0, 2, 3, 4, 5, 6, 6);
        x = numbered(6, 1);
        due.is("two on", x.copy(0, 1, 0, 3, 3), 1);
        row(x, 0, 1, 2, 3, 2, 3, 4);
        x = numbered(6, 1);
        due.is("in its place", x.copy(0, 0, 0, 0, 6), 1);
        row(x, 0, 1, 2, 3, 4, 5, 6);
    }

    private static void copyBelowZero() {
        due.part("copy: INDEX: below 0");
        FieldTiles x = numbered(3, 3);
        for (int below : new int[] {-1, -3, LEAST}) {
            due.is("from " + below, x.copy(0, below, 1, 0, 1), INDEX);
            due.is("to " + below, x.copy(0, 0, 1, below, 1), INDEX);
            due.is("so many: " + below, x.copy(0, 2, 1, 2, below), INDEX);
            due.is("none from " + below, x.copy(0, below, 1, 0, 0), INDEX);
            due.is("none to " + below, x.copy(0, 0, 1, below, 0), INDEX);
        }
        row(x, 1, 0, 0, 0);
    }

    private static void copyNotSoMany() {
        due.part("copy: INDEX: not so many");
        FieldTiles x = numbered(5, 3);
        due.is("to the end of both", x.copy(0, 2, 1, 0, 3), 1);
        row(x, 1, 3, 4, 5);
        due.is("r has not so many", x.copy(0, 3, 1, 0, 3), INDEX);
        due.is("q has not so many", x.copy(0, 0, 1, 1, 3), INDEX);
        due.is("q has not so many at all", x.copy(0, 0, 1, 0, 4), INDEX);
        due.is("r itself has not so many", x.copy(0, 0, 0, 1, 5), INDEX);
        row(x, 1, 3, 4, 5);
        row(x, 0, 1, 2, 3, 4, 5);
    }

    private static void copySumsThatWrap() {
        due.part("copy: places and numbers whose sum wraps");
        FieldTiles x = numbered(5, 5);
        due.is("from 1, the most", x.copy(0, 1, 1, 0, MOST), INDEX);
        due.is("to 1, the most", x.copy(0, 0, 1, 1, MOST), INDEX);
        due.is("from the greatest place", x.copy(0, MOST, 1, 0, 1), INDEX);
        due.is("to the greatest place", x.copy(0, 0, 1, MOST, 1), INDEX);
        due.is("from the greatest place, the most", x.copy(0, MOST, 1, MOST, MOST), INDEX);
        due.is("from the least place, the least", x.copy(0, LEAST, 1, LEAST, LEAST), INDEX);
        row(x, 1, 0, 0, 0, 0, 0);
    }

    private static void copyRefusedInOrder() {
        due.part("copy: BAD: the REELS; NULL: r, q; STORE; INDEX");
        FieldTiles x = numbered(3, 3);
        x.reel(2, 1, 3);
        due.is("BAD ahead of NULL: r", x.copy(-1, 0, 9, 0, 1), BAD);
        due.is("BAD ahead of NULL: q", x.copy(9, 0, 18, 0, 1), BAD);
        due.is("BAD is no finding", x.count(6), 0);
        due.is("NULL: r", x.copy(9, 0, 0, 0, 1), NULL);
        due.is("NULL: q", x.copy(0, 0, 9, 0, 1), NULL);
        due.is("NULL: one lost reel twice", x.copy(9, 0, 9, 0, 0), NULL);
        due.is("NULL ahead of INDEX", x.copy(0, -1, 9, -1, -1), NULL);
        due.is("STORE", x.copy(0, 0, 2, 0, 1), STORE);
        due.is("STORE the other way", x.copy(2, 0, 0, 0, 1), STORE);
        due.is("STORE of 0 items", x.copy(0, 0, 2, 0, 0), STORE);
        due.is("STORE ahead of INDEX", x.copy(0, -1, 2, 9, 99), STORE);
        x.lose(2);
        due.is("NULL ahead of STORE, of a row that was", x.copy(0, 0, 2, 0, 1), NULL);
        x.reel(2, 2, 3);
        due.is("like forms again", x.copy(0, 0, 2, 0, 3), 1);
    }

    private static void paintOneAndAll() {
        due.part("paint: Items from .. to: how many");
        FieldTiles x = with(0, 2, 64);
        due.is("all", x.paint(0, 0, 63, 5), 64);
        due.is("the first", x.paint(0, 0, 0, 6), 1);
        due.is("the last", x.paint(0, 63, 63, 7), 1);
        due.is("two", x.paint(0, 30, 31, 8), 2);
        int[][] want = {{0, 6}, {1, 5}, {29, 5}, {30, 8}, {31, 8}, {32, 5}, {62, 5}, {63, 7}};
        for (int[] w : want) {
            due.is("item " + w[0], x.get(0, 2, w[0]), w[1]);
        }
    }

    private static void paintLowestBits() {
        due.part("paint: become v (the lowest bits that they have)");
        int[][] want = {{128, -128, 128, 128}, {256, 0, 256, 256}, {-129, 127, -129, -129},
            {32768, 0, -32768, 32768}, {65535, -1, -1, 65535}, {65536, 0, 0, 65536}, {MOST, -1, -1, MOST},
            {LEAST, 0, 0, LEAST}};
        for (int form = 0; form < 3; form++) {
            FieldTiles x = with(form, form, 4);
            for (int[] w : want) {
                due.is("paint with " + w[0], x.paint(form, 1, 2, w[0]), 2);
                due.is("form " + form + " of " + w[0], x.get(form, form, 1), w[1 + form]);
                due.is("form " + form + " of " + w[0], x.get(form, form, 2), w[1 + form]);
            }
        }
    }

    private static void paintNotSoMany() {
        due.part("paint: INDEX: it has not so many (nothing is done)");
        FieldTiles x = with(0, 2, 4);
        due.is("to its last", x.paint(0, 0, 3, 5), 4);
        due.is("one more", x.paint(0, 0, 4, 6), INDEX);
        due.is("count(6)", x.count(6), 2);
        due.is("to the last of a board", x.paint(0, 0, 63, 6), INDEX);
        due.is("only behind its last", x.paint(0, 4, 4, 6), INDEX);
        due.is("only at 63", x.paint(0, 63, 63, 6), INDEX);
        row(x, 0, 5, 5, 5, 5);
        x.reel(1, 0, 0);
        due.is("an empty row", x.paint(1, 0, 0, 6), INDEX);
        x.reel(2, 0, 63);
        due.is("63 items to 63", x.paint(2, 0, 63, 6), INDEX);
        due.is("63 items to 62", x.paint(2, 0, 62, 6), 63);
    }

    private static void paintRefusedInOrder() {
        due.part("paint: BAD: the REEL, from below 0 or above to, to above 63; NULL; INDEX");
        FieldTiles x = with(0, 2, 64);
        x.reel(1, 2, 4);
        int[][] wrong = {{-1, 3}, {LEAST, 3}, {4, 3}, {63, 0}, {0, 64}, {63, 64}, {64, 64}, {0, MOST}, {MOST, MOST},
            {-1, -1}, {LEAST, LEAST}, {0, -1}, {0, LEAST}, {MOST, LEAST}};
        for (int[] w : wrong) {
            due.is("paint " + w[0] + " .. " + w[1], x.paint(0, w[0], w[1], 5), BAD);
            due.is("BAD ahead of NULL", x.paint(9, w[0], w[1], 5), BAD);
            due.is("BAD ahead of INDEX", x.paint(1, w[0], w[1], 5), BAD);
        }
        due.is("BAD is no finding", x.count(6), 0);
        due.is("NULL ahead of INDEX", x.paint(9, 0, 63, 5), NULL);
        due.is("count(6)", x.count(6), 1);
        due.is("nothing was painted", x.get(0, 2, 0), 0);
        due.is("nothing was painted", x.get(0, 2, 63), 0);
    }
}

/** Short ways to set up an object for a test. */
final class Scene {
    static final int[] WRONG_DATES = {-1, 6, Integer.MIN_VALUE, Integer.MAX_VALUE};
    static final int[] WRONG_CELLS = {-1, 64, Integer.MIN_VALUE, Integer.MAX_VALUE};
    static final int[] WRONG_CLASSES = {-1, 4, Integer.MIN_VALUE, Integer.MAX_VALUE};
    static final int[] WRONG_REELS = {-1, 18, Integer.MIN_VALUE, Integer.MAX_VALUE};
    static final int[] WRONG_FORMS = {-1, 3, Integer.MIN_VALUE, Integer.MAX_VALUE};

    private Scene() {
    }

    /** A date whose 64 cells have the three readings. */
    static void date(FieldTiles x, int date, int a, int b, int c) {
        int[] values = {a, b, c};
        for (int band = 0; band < 3; band++) {
            x.reel(3 * date + band, 2, 64);
            x.paint(3 * date + band, 0, 63, values[band]);
        }
    }

    static void cell(FieldTiles x, int date, int c, int[] values) {
        for (int band = 0; band < 3; band++) {
            x.put(3 * date + band, 2, c, values[band]);
        }
    }

    /**
     * Classes 0 to 3 are told by BAND 0: 0, 10, 20, 30. Their samples stand in the first four cells of
     * date 5, whose other cells have no readings.
     */
    static FieldTiles fourClasses() {
        FieldTiles x = new FieldTiles();
        for (int band = 0; band < 3; band++) {
            x.reel(15 + band, 2, 4);
        }
        for (int k = 0; k < 4; k++) {
            x.put(15, 2, k, 10 * k);
            x.sample(5, k, k);
        }
        x.grow(3, 0);
        return x;
    }

    /** One date's board by a text of 64 digits (classes) or dots (no reading), on fourClasses(). */
    static void board(FieldTiles x, int date, String text) {
        date(x, date, 0, 0, 0);
        for (int c = 0; c < 64; c++) {
            char sign = text.charAt(c);
            // no call for what stands there already: an object has 512 calls
            if (sign != '0') {
                x.put(3 * date, 2, c, sign == '.' ? -1 : 10 * (sign - '0'));
            }
        }
    }
}

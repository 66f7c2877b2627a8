/** Promises 8 to 11: clouds, shadows and features. */
final class SkyTest {
    private static final Due due = new Due("SkyTest");

    private SkyTest() {
    }

    public static void main(String[] args) {
        clouds();
        sun();
        sunFarAndOut();
        sky();
        feature();
        due.end();
    }

    private static void clouds() {
        due.part("promise 8");
        FieldTiles x = new FieldTiles();
        Scene.date(x, 0, 900, 0, 0);
        due.is("sky at BRIGHT", x.sky(0, 0), 3);
        x.put(0, 2, 0, 901);
        due.is("sky above BRIGHT", x.sky(0, 0), 1);
        due.is("clouds(901, 3)", x.clouds(901, 3), 1);
        due.is("sky at the new BRIGHT", x.sky(0, 0), 3);
        due.is("count(7)", x.count(7), 901);
        due.is("count(8)", x.count(8), 3);
        due.is("clouds(1000, 4)", x.clouds(1000, 4), 1);
        x.put(0, 2, 0, 1000);
        due.is("no reading is above 1000", x.sky(0, 0), 3);
        due.is("clouds(0, 0)", x.clouds(0, 0), 1);
        x.put(0, 2, 1, 0);
        x.put(0, 2, 2, 1);
        due.is("sky of 0 with BRIGHT 0", x.sky(0, 1), 3);
        due.is("sky of 1 with BRIGHT 0", x.sky(0, 2), 1);
        int[][] wrong = {{-1, 0}, {1001, 0}, {0, -1}, {0, 5}, {Integer.MAX_VALUE, 1}, {1, Integer.MIN_VALUE}};
        for (int[] w : wrong) {
            due.is("clouds(" + w[0] + ", " + w[1] + ")", x.clouds(w[0], w[1]), -2000);
        }
        due.is("count(7)", x.count(7), 0);
        due.is("count(8)", x.count(8), 0);
    }

    private static void states(FieldTiles x, int date, int[] cells, int want) {
        for (int c : cells) {
            due.is("sky(" + date + ", " + c + ")", x.sky(date, c), want);
        }
    }

    private static void sun() {
        due.part("promise 9");
        FieldTiles x = new FieldTiles();
        Scene.date(x, 0, 100, 0, 0);
        Scene.date(x, 1, 100, 0, 0);
        x.put(0, 2, 27, 950);
        x.put(3, 2, 27, 950);
        states(x, 0, new int[] {26, 28, 19, 35}, 3);
        due.is("sun(0, 1, 0)", x.sun(0, 1, 0), 1);
        states(x, 0, new int[] {28, 29}, 2);
        states(x, 0, new int[] {26, 30, 35}, 3);
        states(x, 1, new int[] {28, 29}, 3);
        due.is("sun(0, 0, -2)", x.sun(0, 0, -2), 1);
        states(x, 0, new int[] {11}, 2);
        states(x, 0, new int[] {19, 3, 28, 43}, 3);
        x.clouds(900, 0);
        states(x, 0, new int[] {11}, 3);
        x.clouds(900, 1);
        due.is("sun(0, -1, 1)", x.sun(0, -1, 1), 1);
        states(x, 0, new int[] {34}, 2);
        states(x, 0, new int[] {41, 20, 36}, 3);
        x.clouds(900, 4);
        states(x, 0, new int[] {34, 41, 48}, 2);
        due.is("sun(0, 0, 0)", x.sun(0, 0, 0), 1);
        states(x, 0, new int[] {34, 41, 48}, 3);
        for (int wrong : Scene.WRONG_DATES) {
            due.is("date " + wrong, x.sun(wrong, 1, 1), -2000);
        }
        for (int wrong : new int[] {-3, 3, Integer.MIN_VALUE, Integer.MAX_VALUE}) {
            due.is("x " + wrong, x.sun(0, wrong, 1), -2000);
            due.is("y " + wrong, x.sun(0, 1, wrong), -2000);
        }
        states(x, 0, new int[] {28, 29, 35, 36}, 3);
    }

    private static void sunFarAndOut() {
        FieldTiles x = new FieldTiles();
        Scene.date(x, 5, 100, 0, 0);
        x.put(15, 2, 7, 950);
        x.sun(5, 1, 0);
        // the cell behind the end of a row is no neighbour of the next row's first
        states(x, 5, new int[] {8, 9, 6, 0, 15}, 3);
        x.put(15, 2, 8, 950);
        x.sun(5, -1, 0);
        states(x, 5, new int[] {6, 5}, 2);
        states(x, 5, new int[] {15}, 3);
        x.sun(5, 1, 0);
        states(x, 5, new int[] {9, 10}, 2);
        x.put(15, 2, 7, 100);
        x.sun(5, -1, 0);
        states(x, 5, new int[] {7, 6, 15}, 3);
        x.put(15, 2, 7, 950);
        x.put(15, 2, 8, 100);
        x.sun(5, -1, 2);
        x.clouds(900, 3);
        states(x, 5, new int[] {22, 37, 52}, 2);
        states(x, 5, new int[] {23, 15, 14}, 3);
        x.put(15, 2, 22, 950);
        states(x, 5, new int[] {22}, 1);
        // a cloud with a band missing still throws its shadow
        x.put(16, 2, 7, -1);
        x.put(15, 2, 22, 100);
        states(x, 5, new int[] {7}, 0);
        states(x, 5, new int[] {22, 37, 52}, 2);
        // a reading of the cloud that is none throws none
        x.put(15, 2, 7, 1001);
        states(x, 5, new int[] {22, 37, 52}, 3);
        x.sun(5, -2, -2);
        x.put(15, 2, 63, 1000);
        states(x, 5, new int[] {45, 27, 9}, 2);
        x.clouds(900, 2);
        states(x, 5, new int[] {45, 27}, 2);
        states(x, 5, new int[] {9, 54}, 3);
    }

    private static void sky() {
        due.part("promise 10");
        FieldTiles x = new FieldTiles();
        Scene.date(x, 2, 1000, 1000, 0);
        x.clouds(1000, 2);
        states(x, 2, new int[] {0, 63}, 3);
        for (int band = 0; band < 3; band++) {
            x.put(6 + band, 2, 10 + band, 1001);
            x.put(6 + band, 2, 20 + band, -1);
            states(x, 2, new int[] {10 + band, 20 + band}, 0);
        }
        x.reel(8, 2, 63);
        states(x, 2, new int[] {62}, 3);
        states(x, 2, new int[] {63}, 0);
        x.reel(8, 0, 64);
        x.put(8, 0, 5, 200);
        states(x, 2, new int[] {63}, 3);
        states(x, 2, new int[] {5}, 0);
        // the first that fits: missing ahead of cloud, cloud ahead of shadowed
        x.clouds(900, 2);
        x.sun(2, 1, 0);
        states(x, 2, new int[] {0, 1, 2}, 1);
        states(x, 2, new int[] {5}, 0);
        x.put(6, 2, 30, 900);
        states(x, 2, new int[] {30}, 2);
        for (int wrong : Scene.WRONG_DATES) {
            due.is("sky(" + wrong + ", 0)", x.sky(wrong, 0), -2000);
        }
        for (int wrong : Scene.WRONG_CELLS) {
            due.is("sky(0, " + wrong + ")", x.sky(0, wrong), -2000);
        }
    }

    private static void green(FieldTiles x, int one, int two, int want) {
        x.put(4, 2, 7, one);
        x.put(5, 2, 7, two);
        due.is("green of " + one + " and " + two, x.feature(1, 7, 3), want);
    }

    private static void feature() {
        due.part("promise 11");
        FieldTiles x = new FieldTiles();
        Scene.date(x, 1, 11, 22, 33);
        due.is("feature 0", x.feature(1, 7, 0), 11);
        due.is("feature 1", x.feature(1, 7, 1), 22);
        due.is("feature 2", x.feature(1, 7, 2), 33);
        due.is("feature 3", x.feature(1, 7, 3), 200);
        green(x, 0, 0, 0);
        green(x, 0, 1, 1000);
        green(x, 1, 0, -1000);
        green(x, 1000, 0, -1000);
        green(x, 500, 500, 0);
        green(x, 1, 2, 333);
        green(x, 2, 1, -334);
        green(x, 1000, 999, -1);
        green(x, 999, 1000, 0);
        due.is("on another date", x.feature(0, 7, 0), -2001);
        x.put(3, 2, 7, 901);
        due.is("of a cloud", x.feature(1, 7, 0), -2001);
        x.sun(1, 0, 1);
        due.is("of a shadowed cell", x.feature(1, 15, 3), -2001);
        x.put(4, 2, 40, -1);
        due.is("of a cell with a band missing", x.feature(1, 40, 0), -2001);
        for (int wrong : Scene.WRONG_DATES) {
            due.is("date " + wrong, x.feature(wrong, 0, 0), -2000);
        }
        for (int wrong : Scene.WRONG_CELLS) {
            due.is("cell " + wrong, x.feature(1, wrong, 0), -2000);
        }
        for (int wrong : new int[] {-1, 4, Integer.MIN_VALUE, Integer.MAX_VALUE}) {
            due.is("feature " + wrong, x.feature(1, 0, wrong), -2000);
            due.is("BAD ahead of NOT", x.feature(1, 7, wrong), -2000);
        }
    }
}

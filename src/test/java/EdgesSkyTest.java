import java.util.Arrays;

/** The sentences of the document that name an edge: readings, clouds, shadows and features (8 to 11). */
final class EdgesSkyTest {
    private static final Due due = new Due("EdgesSkyTest");
    private static final int BAD = -2000, NOT = -2001;
    private static final int LEAST = Integer.MIN_VALUE, MOST = Integer.MAX_VALUE;

    private EdgesSkyTest() {
    }

    public static void main(String[] args) {
        readings();
        readingsByForm();
        cloudAboveBright();
        brightLeastAndMost();
        cloudByBandZero();
        noShadowAtBright();
        cloudsRefused();
        sunAtFirst();
        highFromNoneToFour();
        nearestCloudIsNotNeeded();
        shadowsOnTheBoardAlone();
        sunOfItsDate();
        sunRefused();
        cloudWithABandMissing();
        firstThatFits();
        skyRefused();
        greenOfNothing();
        greenRoundedDown();
        featureOfWhatIsNotClear();
        featureRefused();
        due.end();
    }

    private static FieldTiles lit() {
        FieldTiles x = new FieldTiles();
        Scene.date(x, 0, 5, 5, 5);
        return x;
    }

    private static void skies(FieldTiles x, int want, int... cells) {
        for (int c : cells) {
            due.is("sky(0, " + c + ")", x.sky(0, c), want);
        }
    }

    private static void readings() {
        due.part("A READING is an item, NONE if there is none, or it is below 0 or above 1000");
        for (int band = 0; band < 3; band++) {
            FieldTiles x = lit();
            x.clouds(1000, 0);
            int[][] rows = {{0, 3}, {1000, 3}, {-1, 0}, {1001, 0}, {LEAST, 0}, {MOST, 0}, {5, 3}};
            for (int[] row : rows) {
                x.put(band, 2, 9, row[0]);
                due.is("band " + band + " of " + row[0], x.sky(0, 9), row[1]);
                due.is("the cell beside", x.sky(0, 10), 3);
            }
            x.reel(band, 2, 9);
            due.is("band " + band + " without the item", x.sky(0, 9), 0);
            due.is("the item ahead", x.sky(0, 8), 3);
            x.reel(band, 2, 0);
            due.is("band " + band + " empty", x.sky(0, 0), 0);
            x.lose(band);
            due.is("band " + band + " lost", x.sky(0, 0), 0);
        }
    }

    private static void readingsByForm() {
        due.part("a READING of each FORM");
        int[][] rows = {{127, 3, 3, 3}, {128, 0, 3, 3}, {1000, 0, 3, 3}, {1001, 0, 0, 0}, {-1, 0, 0, 0},
            {256, 3, 3, 3}, {65536, 3, 3, 0}, {65535, 0, 0, 0}, {32768, 3, 0, 0}};
        for (int form = 0; form < 3; form++) {
            FieldTiles x = lit();
            x.reel(1, form, 64);
            for (int[] row : rows) {
                x.put(1, form, 0, row[0]);
                due.is("form " + form + " of " + row[0], x.sky(0, 0), row[1 + form]);
            }
        }
    }

    private static void cloudAboveBright() {
        due.part("A CELL is a CLOUD on a DATE, if BAND 0's READING is above BRIGHT (900 at first)");
        FieldTiles x = lit();
        x.put(0, 2, 1, 899);
        x.put(0, 2, 2, 900);
        x.put(0, 2, 3, 901);
        x.put(0, 2, 4, 1000);
        x.put(0, 2, 5, 1001);
        skies(x, 3, 0, 1, 2);
        skies(x, 1, 3, 4);
        skies(x, 0, 5);
        due.is("count(7)", x.count(7), 900);
        x.clouds(899, 2);
        skies(x, 3, 1);
        skies(x, 1, 2, 3, 4);
    }

    private static void brightLeastAndMost() {
        due.part("BRIGHT (told, 0 to 1000)");
        FieldTiles x = lit();
        x.put(0, 2, 0, 0);
        x.put(0, 2, 1, 1);
        x.put(0, 2, 2, 1000);
        due.is("clouds(0, 0)", x.clouds(0, 0), 1);
        skies(x, 3, 0);
        skies(x, 1, 1, 2);
        due.is("clouds(1000, 0)", x.clouds(1000, 0), 1);
        skies(x, 3, 0, 1, 2);
        due.is("clouds(999, 0)", x.clouds(999, 0), 1);
        skies(x, 3, 0, 1);
        skies(x, 1, 2);
    }

    private static void cloudByBandZero() {
        due.part("a CLOUD by BAND 0's READING alone");
        FieldTiles x = lit();
        x.put(1, 2, 9, 1000);
        x.put(2, 2, 10, 1000);
        x.sun(0, 1, 0);
        skies(x, 3, 9, 10, 11, 12);
    }

    private static void noShadowAtBright() {
        due.part("SHADOWED by a CLOUD, which is above BRIGHT");
        FieldTiles x = lit();
        x.sun(0, 1, 0);
        x.put(0, 2, 0, 900);
        skies(x, 3, 0, 1, 2);
        x.put(0, 2, 0, 901);
        skies(x, 1, 0);
        skies(x, 2, 1, 2);
        x.clouds(901, 2);
        skies(x, 3, 0, 1, 2);
        x.clouds(0, 2);
        x.paint(0, 0, 7, 0);
        skies(x, 3, 0, 1, 2);
        x.put(0, 2, 0, 1);
        skies(x, 2, 1, 2);
    }

    private static void cloudsRefused() {
        due.part("clouds: BAD");
        FieldTiles x = lit();
        x.clouds(4, 3);
        int[][] wrong = {{-1, 1}, {1001, 1}, {LEAST, 1}, {MOST, 1}, {10, -1}, {10, 5}, {10, LEAST}, {10, MOST},
            {-1, 5}};
        for (int[] w : wrong) {
            due.is("clouds(" + w[0] + ", " + w[1] + ")", x.clouds(w[0], w[1]), BAD);
            due.is("count(7)", x.count(7), 4);
            due.is("count(8)", x.count(8), 3);
        }
        skies(x, 1, 0);
    }

    private static void sunAtFirst() {
        due.part("The SUN of a DATE (0, 0 at first); with the step 0, 0 none is");
        for (int date = 0; date < 6; date++) {
            FieldTiles x = new FieldTiles();
            Scene.date(x, date, 5, 5, 5);
            x.put(3 * date, 2, 27, 950);
            for (int c = 0; c < 64; c++) {
                due.is("sky(" + date + ", " + c + ")", x.sky(date, c), c == 27 ? 1 : 3);
            }
            x.sun(date, 1, 1);
            due.is("with a step", x.sky(date, 36), 2);
            due.is("sun(" + date + ", 0, 0)", x.sun(date, 0, 0), 1);
            due.is("without", x.sky(date, 36), 3);
        }
    }

    private static void highFromNoneToFour() {
        due.part("1 to HIGH (told, 0 to 4; 2 at first) times that step");
        FieldTiles x = lit();
        x.put(0, 2, 0, 950);
        x.sun(0, 1, 0);
        due.is("count(8)", x.count(8), 2);
        skies(x, 2, 1, 2);
        skies(x, 3, 3, 4, 5, 6, 7);
        for (int high = 0; high <= 4; high++) {
            due.is("clouds(900, " + high + ")", x.clouds(900, high), 1);
            for (int c = 1; c < 8; c++) {
                due.is("HIGH " + high + ": cell " + c, x.sky(0, c), c <= high ? 2 : 3);
            }
        }
    }

    private static void nearestCloudIsNotNeeded() {
        due.part("some CELL that is 1 to HIGH times that step back");
        FieldTiles x = lit();
        x.clouds(900, 3);
        x.sun(0, 2, 0);
        x.put(0, 2, 1, 950);
        skies(x, 3, 0, 2, 4, 6);
        skies(x, 2, 3, 5, 7);
        // a cell between that has no reading does not hold the shadow up
        x.put(0, 2, 3, -1);
        skies(x, 0, 3);
        skies(x, 2, 5, 7);
        x.put(0, 2, 5, 950);
        skies(x, 1, 5);
        x.put(0, 2, 1, 5);
        skies(x, 2, 7);
    }

    /** Every step, with the one cloud in every cell: no shadow leaves the board and comes in elsewhere. */
    private static void shadowsOnTheBoardAlone() {
        due.part("some CELL of the BOARD; a step x, y (-2 to 2 each)");
        for (int step = 0; step < 25; step++) {
            int x = step % 5 - 2;
            int y = step / 5 - 2;
            for (int cloud = 0; cloud < 64; cloud++) {
                FieldTiles tiles = lit();
                int high = cloud % 5;
                tiles.clouds(900, high);
                tiles.put(0, 2, cloud, 901);
                due.is("sun(0, " + x + ", " + y + ")", tiles.sun(0, x, y), 1);
                int[] want = new int[64];
                Arrays.fill(want, 3);
                for (int times = 1; times <= high; times++) {
                    int column = cloud % 8 + times * x;
                    int row = cloud / 8 + times * y;
                    if (column >= 0 && column < 8 && row >= 0 && row < 8) {
                        want[8 * row + column] = 2;
                    }
                }
                want[cloud] = 1;
                for (int c = 0; c < 64; c++) {
                    due.is("cloud " + cloud + ", step " + x + ", " + y + ", HIGH " + high + ": sky of " + c,
                            tiles.sky(0, c), want[c]);
                }
            }
        }
    }

    private static void sunOfItsDate() {
        due.part("sun: The SUN of a DATE");
        FieldTiles x = new FieldTiles();
        for (int date = 0; date < 6; date++) {
            Scene.date(x, date, 5, 5, 5);
            x.put(3 * date, 2, 27, 950);
        }
        int[][] steps = {{1, 0}, {0, 1}, {-1, 0}, {0, -1}, {2, 2}, {-2, -2}};
        for (int date = 0; date < 6; date++) {
            due.is("sun(" + date + ")", x.sun(date, steps[date][0], steps[date][1]), 1);
        }
        for (int date = 0; date < 6; date++) {
            for (int other = 0; other < 6; other++) {
                int c = 27 + steps[other][0] + 8 * steps[other][1];
                due.is("sky(" + date + ", " + c + ")", x.sky(date, c), date == other ? 2 : 3);
            }
        }
    }

    private static void sunRefused() {
        due.part("sun: BAD");
        FieldTiles x = lit();
        x.put(0, 2, 27, 950);
        x.sun(0, 1, 0);
        for (int date : Scene.WRONG_DATES) {
            due.is("sun(" + date + ", 0, 0)", x.sun(date, 0, 0), BAD);
        }
        for (int far : new int[] {-3, 3, LEAST, MOST}) {
            due.is("x " + far, x.sun(0, far, 0), BAD);
            due.is("y " + far, x.sun(0, 0, far), BAD);
        }
        skies(x, 2, 28, 29);
    }

    private static void cloudWithABandMissing() {
        due.part("a CLOUD whose other READINGS are missing");
        for (int band = 1; band < 3; band++) {
            FieldTiles x = lit();
            x.sun(0, 1, 0);
            x.put(0, 2, 0, 950);
            x.put(band, 2, 0, -1);
            skies(x, 0, 0);
            skies(x, 2, 1, 2);
            x.put(0, 2, 0, 1001);
            skies(x, 3, 1, 2);
            x.put(0, 2, 0, MOST);
            skies(x, 3, 1, 2);
        }
    }

    private static void firstThatFits() {
        due.part("sky: 0 READING missing, 1 CLOUD, 2 SHADOWED, 3 CLEAR (the first that fits)");
        FieldTiles x = lit();
        x.sun(0, 1, 0);
        x.put(0, 2, 0, 950);
        x.put(0, 2, 1, 950);
        x.put(1, 2, 2, -1);
        skies(x, 1, 0, 1);
        skies(x, 0, 2);
        skies(x, 2, 3);
        skies(x, 3, 4);
        x.put(2, 2, 1, -1);
        skies(x, 0, 1);
        x.put(2, 2, 1, 1001);
        skies(x, 0, 1);
    }

    private static void skyRefused() {
        due.part("sky: BAD");
        FieldTiles x = lit();
        skies(x, 3, 0, 63);
        due.is("sky(5, 63)", x.sky(5, 63), 0);
        for (int date : Scene.WRONG_DATES) {
            due.is("sky(" + date + ", 0)", x.sky(date, 0), BAD);
        }
        for (int c : Scene.WRONG_CELLS) {
            due.is("sky(0, " + c + ")", x.sky(0, c), BAD);
        }
    }

    private static void green(FieldTiles x, int one, int two, int want) {
        x.put(1, 2, 63, one);
        x.put(2, 2, 63, two);
        due.is("green of " + two + " and " + one, x.feature(0, 63, 3), want);
    }

    private static void greenOfNothing() {
        due.part("GREEN: 0 if both are 0");
        FieldTiles x = lit();
        green(x, 0, 0, 0);
        green(x, 0, 1, 1000);
        green(x, 1, 0, -1000);
        green(x, 0, 1000, 1000);
        green(x, 1000, 0, -1000);
        green(x, 1000, 1000, 0);
    }

    private static void greenRoundedDown() {
        due.part("GREEN: 1000 times (BAND 2 less BAND 1) by (BAND 2 and BAND 1), rounded down");
        FieldTiles x = lit();
        green(x, 1, 2, 333);
        green(x, 2, 1, -334);
        green(x, 999, 1000, 0);
        green(x, 1000, 999, -1);
        green(x, 1, 1000, 998);
        green(x, 1000, 1, -999);
        green(x, 3, 1, -500);
        green(x, 50, 20, -429);
        // whole numbers, but not by way of a float
        green(x, 377, 123, -508);
        green(x, 247, 753, 506);
    }

    private static void featureOfWhatIsNotClear() {
        due.part("feature: NOT: it is not CLEAR");
        FieldTiles x = lit();
        x.sun(0, 1, 0);
        x.put(0, 2, 0, 950);
        x.put(2, 2, 9, -1);
        for (int f = 0; f < 4; f++) {
            due.is("of a CLOUD", x.feature(0, 0, f), NOT);
            due.is("of a SHADOWED one", x.feature(0, 1, f), NOT);
            due.is("without a READING", x.feature(0, 9, f), NOT);
            due.is("on a date without any", x.feature(1, 0, f), NOT);
            due.is("of a CLEAR one", x.feature(0, 63, f), f < 3 ? 5 : 0);
        }
    }

    private static void featureRefused() {
        due.part("feature: BAD; NOT");
        FieldTiles x = lit();
        x.put(0, 2, 0, 950);
        for (int f : new int[] {-1, 4, LEAST, MOST}) {
            due.is("feature " + f, x.feature(0, 1, f), BAD);
            due.is("BAD ahead of NOT: feature " + f, x.feature(0, 0, f), BAD);
        }
        for (int date : Scene.WRONG_DATES) {
            due.is("date " + date, x.feature(date, 1, 0), BAD);
        }
        for (int c : Scene.WRONG_CELLS) {
            due.is("cell " + c, x.feature(0, c, 0), BAD);
            due.is("BAD ahead of NOT: cell " + c, x.feature(1, c, 0), BAD);
        }
    }
}

import java.math.BigInteger;
import java.util.Arrays;

/** The sentences of the document that name an edge: proofs, areas, counts and the digest (26 to 29). */
final class EdgesAreasTest {
    private static final Due due = new Due("EdgesAreasTest");
    private static final int BAD = -2000, NOT = -2001, LEAST = Integer.MIN_VALUE, MOST = Integer.MAX_VALUE;

    private EdgesAreasTest() {
    }

    public static void main(String[] args) {
        noProofsAtFirst();
        proveOneToThousand();
        thousandAreKept();
        thousandAreKeptInTheArea();
        proveRefused();
        areaWithoutCells();
        areaOfAnEmptyRow();
        areaOfEmptyRowsThatNoCellNeeds();
        areaByToldAndTrue();
        areaRoundedDown();
        areaByOneDivision();
        areaOfAWhole();
        areaBelowAWhole();
        areaOfTheGreatestTable();
        areaOfUnlikeRows();
        areaRefused();
        countAtFirst();
        countOfReels();
        countRefused();
        digestOfANewObject();
        digestWraps();
        digestHasThese();
        digestHasNotThese();
        due.end();
    }

    /** Date 0 has so many cells of classes 0, 1, 2 and 3; the others have no class. */
    private static FieldTiles cells(int... many) {
        FieldTiles x = Scene.fourClasses();
        Scene.date(x, 0, -1, 0, 0);
        int from = 0;
        for (int k = 0; k < many.length; k++) {
            if (many[k] > 0) {
                x.paint(0, from, from + many[k] - 1, 10 * k);
            }
            from += many[k];
        }
        return x;
    }

    private static void proofs(FieldTiles x, int i, int... row) {
        for (int j = 0; j < row.length; j++) {
            if (row[j] > 0) {
                x.prove(i, j, row[j]);
            }
        }
    }

    private static void areas(FieldTiles x, long... want) {
        for (int j = 0; j < 4; j++) {
            due.is("area(0, " + j + ")", x.area(0, j), want[j]);
        }
    }

    private static void noProofsAtFirst() {
        due.part("PROOFS (0 to 1000 each; 0 at first)");
        FieldTiles x = new FieldTiles();
        for (int i = 0; i < 4; i++) {
            for (int j = 0; j < 4; j++) {
                due.is("prove(" + i + ", " + j + ", 1)", x.prove(i, j, 1), 1);
            }
        }
        for (int i = 0; i < 4; i++) {
            for (int j = 0; j < 4; j++) {
                int more = 4 * i + j + 1;
                due.is("prove(" + i + ", " + j + ", " + more + ")", x.prove(i, j, more), more + 1);
            }
        }
    }

    private static void proveOneToThousand() {
        due.part("prove: So often more (1 to 1000)");
        due.is("1", new FieldTiles().prove(0, 0, 1), 1);
        due.is("2", new FieldTiles().prove(3, 0, 2), 2);
        due.is("999", new FieldTiles().prove(0, 3, 999), 999);
        due.is("1000", new FieldTiles().prove(3, 3, 1000), 1000);
    }

    private static void thousandAreKept() {
        due.part("prove: 1000 at most are kept: how often");
        FieldTiles x = new FieldTiles();
        due.is("998", x.prove(1, 2, 998), 998);
        due.is("one more", x.prove(1, 2, 1), 999);
        due.is("one more", x.prove(1, 2, 1), 1000);
        due.is("one more", x.prove(1, 2, 1), 1000);
        due.is("1000 more", x.prove(1, 2, 1000), 1000);
        due.is("another place", x.prove(1, 3, 999), 999);
        due.is("1000 more there", x.prove(1, 3, 1000), 1000);
        due.is("its mirror", x.prove(2, 1, 5), 5);
    }

    private static void thousandAreKeptInTheArea() {
        due.part("1000 at most are kept, and no more told by an area");
        FieldTiles x = cells(10);
        proofs(x, 0, 1000, 1000);
        areas(x, 5000, 5000, 0, 0);
        proofs(x, 0, 1000);
        areas(x, 5000, 5000, 0, 0);
    }

    private static void proveRefused() {
        due.part("prove: BAD");
        FieldTiles x = new FieldTiles();
        x.prove(0, 0, 5);
        for (int n : new int[] {0, -1, 1001, LEAST, MOST}) {
            due.is("so often: " + n, x.prove(0, 0, n), BAD);
        }
        for (int k : Scene.WRONG_CLASSES) {
            due.is("told " + k, x.prove(k, 0, 1), BAD);
            due.is("truly " + k, x.prove(0, k, 1), BAD);
        }
        due.is("5 and 1", x.prove(0, 0, 1), 6);
    }

    private static void areaWithoutCells() {
        due.part("THE AREA where no CELL has a CLASS");
        FieldTiles x = new FieldTiles();
        due.is("a new object", x.area(0, 0), 0);
        due.is("the last date, the last class", x.area(5, 3), 0);
        x.prove(0, 0, 1000);
        due.is("with proofs", x.area(0, 0), 0);
        x = cells(5);
        x.forget();
        x.grow(2, 1);
        due.is("by the nearest, without teachers", x.area(0, 0), 0);
        x.grow(2, 0);
        due.is("by the tree, without teachers: class 0", x.area(0, 0), NOT);
    }

    private static void areaOfAnEmptyRow() {
        due.part("area: NOT, if a CLASS that some CELL has has an empty row");
        for (int k = 0; k < 4; k++) {
            int[] many = {20, 20, 20, 4};
            FieldTiles x = cells(many);
            for (int i = 0; i < 4; i++) {
                if (i != k) {
                    // the column of the class alone is not its row
                    proofs(x, i, 1, 1, 1, 1);
                }
            }
            for (int j = 0; j < 4; j++) {
                due.is("area(0, " + j + ") with row " + k + " empty", x.area(0, j), NOT);
            }
            x.prove(k, 3 - k, 1);
            due.is("with one proof in it", x.area(0, 0) >= 0 ? 1 : 0, 1);
        }
        FieldTiles x = cells(63, 1);
        x.prove(0, 0, 1);
        due.is("one cell is enough", x.area(0, 0), NOT);
        due.is("NOT is no finding", x.count(6), 0);
    }

    private static void areaOfEmptyRowsThatNoCellNeeds() {
        due.part("empty rows of a CLASS that no CELL has");
        FieldTiles x = cells(0, 0, 7, 0);
        x.prove(2, 0, 3);
        areas(x, 7000, 0, 0, 0);
        due.is("date 5 has cells of all classes", x.area(5, 0), NOT);
    }

    private static void areaByToldAndTrue() {
        due.part("CELLS of CLASS i times table i, j by the row's sum");
        FieldTiles x = cells(10, 20, 4, 30);
        proofs(x, 0, 1, 3, 0, 0);
        proofs(x, 1, 0, 1, 1, 0);
        proofs(x, 2, 0, 0, 0, 9);
        proofs(x, 3, 2, 0, 0, 1);
        areas(x, 22500, 17500, 10000, 14000);
    }

    private static void areaRoundedDown() {
        due.part("thousandths of CELLS are told, rounded down");
        FieldTiles x = cells(64);
        proofs(x, 0, 1, 2);
        areas(x, 21333, 42666, 0, 0);
        x = cells(1);
        proofs(x, 0, 1, 1000, 1000, 1000);
        areas(x, 0, 333, 333, 333);
        x = cells(1);
        proofs(x, 0, 1, 999);
        areas(x, 1, 999, 0, 0);
    }

    private static void areaByOneDivision() {
        due.part("one division: over a common bottom");
        // 1/3 and 2/3: rounded each by itself they would be 333 and 666
        FieldTiles x = cells(1, 1);
        proofs(x, 0, 1, 2);
        proofs(x, 1, 2, 1);
        areas(x, 1000, 1000, 0, 0);
        // 1/7, 2/7, 4/7 and 0
        x = cells(1, 1, 1, 1);
        proofs(x, 0, 1, 6);
        proofs(x, 1, 2, 5);
        proofs(x, 2, 4, 3);
        proofs(x, 3, 0, 1);
        areas(x, 1000, 3000, 0, 0);
    }

    private static void areaOfAWhole() {
        due.part("rounded down: what is a whole number stays it (doubles fall below it)");
        // 3 times 3/5
        FieldTiles x = cells(3);
        proofs(x, 0, 3, 2);
        areas(x, 1800, 1200, 0, 0);
        // 17 times 19/20
        x = cells(17);
        proofs(x, 0, 19, 1);
        areas(x, 16150, 850, 0, 0);
        // 2 times 4/5, 4 times 2/3, 1 times 2/6
        x = cells(2, 4, 1);
        proofs(x, 0, 4, 1);
        proofs(x, 1, 2, 1);
        proofs(x, 2, 2, 4);
        areas(x, 4600, 2400, 0, 0);
        // 20 times 3/3, 13 times 9/10, 1 times 3/5
        x = cells(20, 13, 1);
        proofs(x, 0, 3);
        proofs(x, 1, 9, 1);
        proofs(x, 2, 3, 2);
        areas(x, 32300, 1700, 0, 0);
    }

    private static void areaBelowAWhole() {
        due.part("rounded down: what is below a whole number by 1 in 70739809557017 (doubles reach it)");
        FieldTiles x = cells(16, 16, 16, 16);
        proofs(x, 0, 386, 1000, 1000, 333);
        proofs(x, 1, 583, 1000, 1000, 676);
        proofs(x, 2, 530, 1000, 1000, 441);
        proofs(x, 3, 901, 1000, 786);
        due.is("area(0, 0)", x.area(0, 0), 13352);
    }

    private static void areaOfTheGreatestTable() {
        due.part("THE AREA of a full table");
        FieldTiles x = cells(16, 16, 16, 16);
        for (int i = 0; i < 4; i++) {
            proofs(x, i, 1000, 1000, 1000, 1000);
        }
        areas(x, 16000, 16000, 16000, 16000);
        x = cells(61, 1, 1, 1);
        for (int i = 0; i < 4; i++) {
            proofs(x, i, 1000, 1000, 1000, 999);
        }
        // 64 times 1000 by 3999, and 64 times 999 by 3999
        areas(x, 16004, 16004, 16004, 15987);
    }

    private static void areaOfUnlikeRows() {
        due.part("THE AREA of rows whose sums have no common part");
        FieldTiles x = cells(13, 17, 19, 15);
        proofs(x, 0, 997, 991, 983, 977);
        proofs(x, 1, 1000, 1000, 1000, 1);
        proofs(x, 2, 1, 0, 1000, 0);
        proofs(x, 3, 1000, 999, 998, 1000);
        for (int j = 0; j < 4; j++) {
            BigInteger top = BigInteger.ZERO;
            BigInteger bottom = BigInteger.ONE;
            int[] many = {13, 17, 19, 15};
            int[][] table = {{997, 991, 983, 977}, {1000, 1000, 1000, 1}, {1, 0, 1000, 0}, {1000, 999, 998, 1000}};
            for (int i = 0; i < 4; i++) {
                BigInteger sum = BigInteger.valueOf(Arrays.stream(table[i]).sum());
                top = top.multiply(sum).add(bottom.multiply(BigInteger.valueOf(many[i] * table[i][j])));
                bottom = bottom.multiply(sum);
            }
            due.is("area(0, " + j + ")", x.area(0, j),
                    top.multiply(BigInteger.valueOf(1000)).divide(bottom).longValueExact());
        }
    }

    private static void areaRefused() {
        due.part("area: BAD; NOT");
        FieldTiles x = cells(5);
        for (int date : Scene.WRONG_DATES) {
            due.is("date " + date, x.area(date, 0), -2000L);
        }
        for (int k : Scene.WRONG_CLASSES) {
            due.is("BAD ahead of NOT: class " + k, x.area(0, k), -2000L);
            due.is("where no cell has a class: class " + k, x.area(1, k), -2000L);
        }
        due.is("NOT", x.area(0, 0), -2001L);
    }

    private static void countAtFirst() {
        due.part("count: of a new object");
        int[] want = {0, 2, 0, 3, 2, 0, 0, 900, 2};
        FieldTiles x = new FieldTiles();
        for (int what = 0; what < 9; what++) {
            due.is("count(" + what + ")", x.count(what), want[what]);
        }
    }

    private static void countOfReels() {
        due.part("count: 5 REELS that are not LOST");
        FieldTiles x = new FieldTiles();
        for (int r = 0; r < 18; r++) {
            x.reel(r, 0, 0);
            due.is("count(5)", x.count(5), r + 1);
        }
        x.reel(0, 1, 64);
        due.is("one anew", x.count(5), 18);
        x.reel(0, 0, -1);
        x.reel(0, 0, 65);
        due.is("two refused", x.count(5), 18);
        for (int r = 0; r < 18; r++) {
            x.lose(r);
            due.is("count(5)", x.count(5), 17 - r);
        }
        x.lose(0);
        due.is("one lost twice", x.count(5), 0);
    }

    private static void countRefused() {
        due.part("count: BAD");
        FieldTiles x = new FieldTiles();
        for (int what : new int[] {-1, 9, 10, LEAST, MOST}) {
            due.is("count(" + what + ")", x.count(what), BAD);
        }
    }

    private static long more(long h, int times, long by) {
        long sum = h;
        for (int n = 0; n < times; n++) {
            sum = 31 * sum + by;
        }
        return sum;
    }

    private static void digestOfANewObject() {
        due.part("digest: h is 17; h becomes 31 h and each of");
        long h = 17;
        for (int told : new int[] {0, 2, 0, 3, 2, 0, 900, 2}) {
            h = 31 * h + told;
        }
        for (int date = 0; date < 6; date++) {
            h = more(h, 64, 0);
            h = more(h, 8, -1);
        }
        h = more(h, 64, 0);
        due.is("digest()", new FieldTiles().digest(), h);
    }

    private static void digestWraps() {
        due.part("digest: as longs that wrap");
        FieldTiles x = new FieldTiles();
        for (int date = 0; date < 6; date++) {
            Scene.date(x, date, 5, 5, 5);
        }
        x.sample(0, 0, 3);
        x.smooth(0, 3);
        BigInteger h = BigInteger.valueOf(17);
        int[] counts = {1, 2, 0, 3, 2, 18, 900, 2};
        // 8 counts; of each date 64 skies and 8 kinds, all of them 3; 64 marks of 1
        for (int n = 0; n < 8 + 6 * 72 + 64; n++) {
            int told = n < 8 ? counts[n] : n < 8 + 6 * 72 ? 3 : 1;
            h = h.multiply(BigInteger.valueOf(31)).add(BigInteger.valueOf(told));
        }
        due.is("digest(), the lowest 64 bits", x.digest(), h.longValue());
    }

    private static FieldTiles whole() {
        FieldTiles x = cells(16, 16, 16, 16);
        x.smooth(0, 1);
        return x;
    }

    private static void differs(String what, FieldTiles x) {
        due.holds(what + " is in the digest", x.digest() != whole().digest());
    }

    private static void digestHasThese() {
        due.part("digest: each of count() 0 to 5, 7, 8; sky() of each CELL; kind() of CELLS 0, 9, .. 63; marks");
        FieldTiles x = whole();
        x.sample(4, 0, 0);
        differs("a sample that does not teach", x);
        x = whole();
        x.grow(3, 1);
        differs("the mode", x);
        x = whole();
        x.weigh(4, 2);
        differs("OWN", x);
        x = whole();
        x.weigh(3, 3);
        differs("EDGE", x);
        x = whole();
        x.reel(12, 0, 0);
        differs("a reel of no items", x);
        x = whole();
        x.clouds(901, 2);
        differs("BRIGHT", x);
        x = whole();
        x.clouds(900, 3);
        differs("HIGH", x);
        x = whole();
        x.put(0, 2, 62, -1);
        differs("the sky of a cell", x);
        x = whole();
        x.put(0, 2, 63, 0);
        differs("the class of the last cell", x);
        x = whole();
        x.smooth(0, 2);
        differs("a mark", x);
    }

    private static void digestHasNotThese() {
        due.part("digest: nothing else");
        long want = whole().digest();
        FieldTiles x = whole();
        x.lose(12);
        due.is("a finding", x.digest(), want);
        x.prove(0, 0, 9);
        due.is("proofs", x.digest(), want);
        x.allow(0, 1, false);
        due.is("moves", x.digest(), want);
        x.put(0, 2, 62, 0);
        due.is("the class of cell 62", x.kind(0, 62), 0);
        due.is("its kind is none of 0, 9, .. 63", x.digest(), want);
        x.sun(4, 2, 2);
        due.is("a sun without clouds", x.digest(), want);
        due.is("asked again", x.digest(), want);
    }
}

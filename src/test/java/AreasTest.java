import java.util.function.Supplier;

/** Promises 26 to 29: proofs, areas, counts and the digest. */
final class AreasTest {
    private static final Due due = new Due("AreasTest");

    private AreasTest() {
    }

    public static void main(String[] args) {
        prove();
        area();
        areaRounded();
        areaGreat();
        count();
        digest();
        constants();
        due.end();
    }

    private static void prove() {
        due.part("promise 26");
        FieldTiles x = new FieldTiles();
        due.is("prove(2, 3, 1)", x.prove(2, 3, 1), 1);
        due.is("prove(2, 3, 400)", x.prove(2, 3, 400), 401);
        due.is("prove(3, 2, 7)", x.prove(3, 2, 7), 7);
        due.is("prove(2, 3, 599)", x.prove(2, 3, 599), 1000);
        due.is("prove(2, 3, 1)", x.prove(2, 3, 1), 1000);
        due.is("prove(3, 2, 1000)", x.prove(3, 2, 1000), 1000);
        for (int wrong : Scene.WRONG_CLASSES) {
            due.is("told " + wrong, x.prove(wrong, 0, 1), -2000);
            due.is("truly " + wrong, x.prove(0, wrong, 1), -2000);
        }
        for (int wrong : new int[] {0, -1, 1001, Integer.MIN_VALUE, Integer.MAX_VALUE}) {
            due.is("so often: " + wrong, x.prove(0, 0, wrong), -2000);
        }
        due.is("prove(0, 0, 1)", x.prove(0, 0, 1), 1);
    }

    private static FieldTiles quarters() {
        FieldTiles x = Scene.fourClasses();
        Scene.date(x, 0, 0, 0, 0);
        for (int k = 1; k < 4; k++) {
            x.paint(0, 16 * k, 16 * k + 15, 10 * k);
        }
        return x;
    }

    private static void area() {
        due.part("promise 27");
        FieldTiles x = quarters();
        due.is("no proofs", x.area(0, 0), -2001);
        due.is("no cells", x.area(1, 0), 0);
        for (int k = 0; k < 3; k++) {
            x.prove(k, k, 10 + k);
        }
        due.is("one row empty", x.area(0, 0), -2001);
        x.prove(3, 3, 1);
        for (int k = 0; k < 4; k++) {
            due.is("area(0, " + k + ")", x.area(0, k), 16000);
        }
        x.prove(0, 1, 30);
        due.is("area(0, 0)", x.area(0, 0), 4000);
        due.is("area(0, 1)", x.area(0, 1), 28000);
        x.paint(0, 48, 63, -1);
        due.is("without class 3", x.area(0, 3), 0);
        due.is("without class 3", x.area(0, 1), 28000);
        FieldTiles y = quarters();
        y.paint(0, 16, 63, 0);
        y.prove(0, 2, 5);
        due.is("empty rows of classes that no cell has", y.area(0, 2), 64000);
        due.is("nothing was truly 0", y.area(0, 0), 0);
        for (int wrong : Scene.WRONG_DATES) {
            due.is("date " + wrong, x.area(wrong, 0), -2000);
        }
        for (int wrong : Scene.WRONG_CLASSES) {
            due.is("class " + wrong, x.area(0, wrong), -2000);
            due.is("BAD ahead of NOT", quarters().area(0, wrong), -2000);
        }
        x.grow(3, 1);
        x.forget();
        due.is("nothing teaches", x.area(0, 1), 0);
    }

    private static void areaRounded() {
        // one cell of class 0, one of class 1: two thirds and one third are 1, though each is rounded
        FieldTiles x = Scene.fourClasses();
        Scene.date(x, 0, -1, 0, 0);
        x.put(0, 2, 0, 0);
        x.put(0, 2, 1, 10);
        x.prove(0, 0, 2);
        x.prove(0, 1, 1);
        x.prove(1, 0, 1);
        x.prove(1, 1, 2);
        due.is("two thirds and one third", x.area(0, 0), 1000);
        due.is("one third and two thirds", x.area(0, 1), 1000);
        x.put(0, 2, 1, -1);
        due.is("two thirds", x.area(0, 0), 666);
        due.is("one third", x.area(0, 1), 333);
        x.put(0, 2, 1, 10);
        x.prove(1, 2, 4);
        due.is("2/3 and 1/7", x.area(0, 0), 809);
        due.is("1/3 and 2/7", x.area(0, 1), 619);
        due.is("4/7", x.area(0, 2), 571);
        due.is("none", x.area(0, 3), 0);
    }

    private static void areaGreat() {
        FieldTiles x = quarters();
        for (int i = 0; i < 4; i++) {
            for (int j = 0; j < 4; j++) {
                x.prove(i, j, 1000);
            }
        }
        for (int j = 0; j < 4; j++) {
            due.is("area(0, " + j + ") of a full table", x.area(0, j), 16000);
        }
    }

    private static void count() {
        due.part("promise 28");
        FieldTiles x = new FieldTiles();
        x.sample(0, 0, 0);
        x.grow(1, 1);
        x.weigh(11, 12);
        x.reel(3, 0, 0);
        x.reel(4, 1, 5);
        x.reel(5, 1, -1);
        x.clouds(13, 4);
        int[] want = {1, 1, 1, 11, 12, 2, 5, 13, 4};
        for (int what = 0; what < want.length; what++) {
            due.is("count(" + what + ")", x.count(what), want[what]);
        }
        for (int wrong : new int[] {-1, 9, Integer.MIN_VALUE, Integer.MAX_VALUE}) {
            due.is("count(" + wrong + ")", x.count(wrong), -2000);
        }
        x.reel(4, 0, 5);
        due.is("count(5), one wound anew", x.count(5), 2);
        x.lose(3);
        due.is("count(5), one lost", x.count(5), 1);
        due.is("count(6) stays", x.count(6), 5);
    }

    /** The digest by the answers of the other calls, each date on an object of its own (512 calls each). */
    private static long digestOf(Supplier<FieldTiles> maker) {
        FieldTiles x = maker.get();
        long h = 17;
        for (int what : new int[] {0, 1, 2, 3, 4, 5, 7, 8}) {
            h = 31 * h + x.count(what);
        }
        for (int date = 0; date < 6; date++) {
            x = maker.get();
            for (int c = 0; c < 64; c++) {
                h = 31 * h + x.sky(date, c);
            }
            for (int c = 0; c < 64; c += 9) {
                h = 31 * h + x.kind(date, c);
            }
        }
        for (int c = 0; c < 64; c++) {
            h = 31 * h + x.mark(c);
        }
        return h;
    }

    private static FieldTiles smoothed() {
        FieldTiles x = quarters();
        x.smooth(0, 1);
        return x;
    }

    private static FieldTiles clouded() {
        FieldTiles x = smoothed();
        x.put(0, 2, 9, 950);
        x.sun(0, 1, 1);
        return x;
    }

    private static FieldTiles nearest() {
        FieldTiles x = clouded();
        x.grow(0, 1);
        return x;
    }

    private static void digest() {
        due.part("promise 29");
        due.is("digest() of a new object", new FieldTiles().digest(), digestOf(FieldTiles::new));
        due.is("digest() of quarters", quarters().digest(), digestOf(AreasTest::quarters));
        due.is("digest() with marks", smoothed().digest(), digestOf(AreasTest::smoothed));
        due.is("digest() with a cloud", clouded().digest(), digestOf(AreasTest::clouded));
        due.is("digest() by the nearest", nearest().digest(), digestOf(AreasTest::nearest));
        FieldTiles x = smoothed();
        long before = x.digest();
        due.holds("marks are in it", before != quarters().digest());
        due.is("digest() again", x.digest(), before);
        x.put(0, 0, 0, 0);
        x.prove(0, 0, 1);
        x.allow(0, 1, false);
        due.is("findings, proofs and moves are not in it", x.digest(), before);
    }

    private static void constants() {
        due.part("the constants");
        due.is("NONE", FieldTiles.NONE, -1);
        due.is("BAD", FieldTiles.BAD, -2000);
        due.is("NOT", FieldTiles.NOT, -2001);
        due.is("FULL", FieldTiles.FULL, -2002);
    }
}

/** Promises 22 to 25: moves and paths. */
final class PathsTest {
    private static final Due due = new Due("PathsTest");

    private PathsTest() {
    }

    public static void main(String[] args) {
        allow();
        path();
        pathToTheEnd();
        on();
        changed();
        due.end();
    }

    /** On fourClasses(): cell c of dates 0 to 4 by a text of classes, '.' for none; date 5 has none there. */
    private static void told(FieldTiles x, int c, String classes) {
        for (int date = 0; date < classes.length(); date++) {
            char sign = classes.charAt(date);
            x.put(3 * date, 2, c, sign == '.' ? -1 : 10 * (sign - '0'));
        }
    }

    /** Dates 0 to 4 have all readings but BAND 0's, so that no cell has a class. */
    private static FieldTiles blank() {
        FieldTiles x = Scene.fourClasses();
        for (int date = 0; date < 5; date++) {
            Scene.date(x, date, -1, 0, 0);
        }
        return x;
    }

    private static FieldTiles withCell(String classes) {
        FieldTiles x = blank();
        told(x, 20, classes);
        return x;
    }

    private static void isPath(FieldTiles x, int cost, String way) {
        due.is("path(20)", x.path(20), cost);
        for (int date = 0; date < 6; date++) {
            due.is("on(20, " + date + ")", x.on(20, date), way.charAt(date) - '0');
        }
    }

    private static void allow() {
        due.part("promise 22");
        FieldTiles x = withCell("01...");
        isPath(x, 0, "010000");
        due.is("allow(1, 0, false)", x.allow(1, 0, false), 1);
        isPath(x, 0, "011111");
        due.is("allow(0, 1, false)", x.allow(0, 1, false), 1);
        isPath(x, 1, "000000");
        due.is("allow(1, 0, true)", x.allow(1, 0, true), 1);
        isPath(x, 1, "000000");
        due.is("allow(0, 1, true)", x.allow(0, 1, true), 1);
        isPath(x, 0, "010000");
        for (int k = 0; k < 4; k++) {
            due.is("to itself", x.allow(k, k, true), -2000);
            due.is("to itself, not", x.allow(k, k, false), -2000);
        }
        for (int wrong : Scene.WRONG_CLASSES) {
            due.is("from " + wrong, x.allow(wrong, 0, false), -2000);
            due.is("to " + wrong, x.allow(0, wrong, false), -2000);
        }
        isPath(x, 0, "010000");
    }

    private static void barAll(FieldTiles x) {
        for (int i = 0; i < 4; i++) {
            for (int j = 0; j < 4; j++) {
                x.allow(i, j, false);
            }
        }
    }

    private static void path() {
        due.part("promises 23 and 24");
        isPath(withCell("....."), 0, "000000");
        isPath(withCell("32123"), 0, "321230");
        isPath(withCell("..2.."), 0, "002000");
        FieldTiles x = withCell("12312");
        barAll(x);
        isPath(x, 3, "111111");
        told(x, 20, "12322");
        isPath(x, 2, "222222");
        told(x, 20, "32103");
        isPath(x, 3, "333333");
        // only upward: of 1 2 1 3 one date must give way, of like ones the least class where they part first
        x = withCell("1213.");
        for (int i = 0; i < 4; i++) {
            for (int j = 0; j < i; j++) {
                x.allow(i, j, false);
            }
        }
        isPath(x, 1, "111333");
        told(x, 20, "3210.");
        isPath(x, 3, "000000");
        told(x, 20, ".3.1.");
        isPath(x, 1, "000111");
        // a way round: 0 to 2 only by 1
        x = withCell("0.2..");
        x.allow(0, 2, false);
        isPath(x, 0, "012000");
        told(x, 20, "02...");
        isPath(x, 1, "000000");
        told(x, 20, "022..");
        isPath(x, 1, "012000");
    }

    /** The samples' own cells, which have a class on date 5 too. */
    private static void pathToTheEnd() {
        FieldTiles x = blank();
        told(x, 0, "30000");
        told(x, 3, "00.23");
        told(x, 2, "11122");
        barAll(x);
        due.is("path(0)", x.path(0), 1);
        due.is("on(0, 0)", x.on(0, 0), 0);
        due.is("path(3): two are 0, two are 3", x.path(3), 3);
        due.is("on(3, 5)", x.on(3, 5), 0);
        due.is("path(2): three are 1, three are 2", x.path(2), 3);
        due.is("on(2, 0)", x.on(2, 0), 1);
        told(x, 3, "0.323");
        due.is("path(3): the last date tells", x.path(3), 2);
        due.is("on(3, 0)", x.on(3, 0), 3);
    }

    private static void on() {
        for (int wrong : Scene.WRONG_CELLS) {
            due.is("path(" + wrong + ")", new FieldTiles().path(wrong), -2000);
            due.is("on(" + wrong + ", 0)", new FieldTiles().on(wrong, 0), -2000);
        }
        for (int wrong : Scene.WRONG_DATES) {
            due.is("on(0, " + wrong + ")", new FieldTiles().on(0, wrong), -2000);
        }
        FieldTiles x = withCell("12...");
        told(x, 63, "3....");
        due.is("on(20, 1)", x.on(20, 1), 2);
        due.is("on(63, 0)", x.on(63, 0), 3);
        due.is("on(62, 0)", x.on(62, 0), 0);
        // date 5 of the samples' own cells
        due.is("on(3, 5)", x.on(3, 5), 3);
        due.is("on(3, 4)", x.on(3, 4), 0);
    }

    private static void changed() {
        due.part("promise 25");
        FieldTiles x = blank();
        // by the samples' cells: 0 on all dates but the last
        for (int k = 1; k < 4; k++) {
            due.is("changed(0, " + k + ")", x.changed(0, k), 1);
            due.is("changed(" + k + ", 0)", x.changed(k, 0), 0);
        }
        told(x, 20, "12121");
        due.is("changed(1, 2)", x.changed(1, 2), 2);
        due.is("changed(2, 1)", x.changed(2, 1), 2);
        due.is("changed(1, 0)", x.changed(1, 0), 1);
        told(x, 40, "31200");
        told(x, 63, ".1200");
        due.is("changed(1, 2)", x.changed(1, 2), 4);
        due.is("changed(3, 1)", x.changed(3, 1), 1);
        due.is("changed(0, 1)", x.changed(0, 1), 2);
        due.is("changed(2, 0)", x.changed(2, 0), 2);
        told(x, 0, "12000");
        due.is("changed(1, 2) with the first cell", x.changed(1, 2), 5);
        x.allow(1, 2, false);
        due.is("changed(1, 2) where it is not allowed", x.changed(1, 2), 0);
        for (int k = 0; k < 4; k++) {
            due.is("one twice", x.changed(k, k), -2000);
        }
        for (int wrong : Scene.WRONG_CLASSES) {
            due.is("from " + wrong, x.changed(wrong, 0), -2000);
            due.is("to " + wrong, x.changed(0, wrong), -2000);
        }
    }
}

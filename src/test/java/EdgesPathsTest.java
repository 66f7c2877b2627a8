/** The sentences of the document that name an edge: moves and paths (22 to 25). */
final class EdgesPathsTest {
    private static final Due due = new Due("EdgesPathsTest");
    private static final int BAD = -2000;

    private EdgesPathsTest() {
    }

    public static void main(String[] args) {
        allMovesAtFirst();
        eachMoveBarred();
        stayingIsAllowed();
        allowAgain();
        allowRefused();
        pathWithoutClasses();
        pathOfTheGreatestCost();
        noneCostsNothing();
        leastClassWhereTheyPartFirst();
        firstAndLastDate();
        pathRefused();
        onRefused();
        changedOnDatesOneToFive();
        changedOnAllCells();
        changedRefused();
        due.end();
    }

    /**
     * Classes 0 to 3 are told by BAND 0: 0, 10, 20, 30, by samples in cells 1 to 4 of date 0. All dates
     * have 64 items; BAND 0 is -1 where no class is told. Cells 1 to 4 have their class on date 0.
     */
    private static FieldTiles blank() {
        FieldTiles x = new FieldTiles();
        for (int date = 0; date < 6; date++) {
            Scene.date(x, date, -1, 0, 0);
        }
        for (int k = 0; k < 4; k++) {
            x.put(0, 2, k + 1, 10 * k);
            x.sample(0, k + 1, k);
        }
        x.grow(3, 0);
        return x;
    }

    private static void tell(FieldTiles x, int c, String classes) {
        for (int date = 0; date < 6; date++) {
            char sign = classes.charAt(date);
            x.put(3 * date, 2, c, sign == '.' ? -1 : 10 * (sign - '0'));
        }
    }

    private static void isPath(FieldTiles x, int c, int cost, String way) {
        due.is("path(" + c + ")", x.path(c), cost);
        for (int date = 0; date < 6; date++) {
            due.is("on(" + c + ", " + date + ")", x.on(c, date), way.charAt(date) - '0');
        }
    }

    private static void barAll(FieldTiles x) {
        for (int from = 0; from < 4; from++) {
            for (int to = 0; to < 4; to++) {
                if (from != to) {
                    x.allow(from, to, false);
                }
            }
        }
    }

    private static void allMovesAtFirst() {
        due.part("MOVES: from each CLASS to each other one allowed or not (all at first)");
        FieldTiles x = blank();
        String[] ways = {"010203", "121323", "203130", "313210", "302031"};
        for (int n = 0; n < ways.length; n++) {
            tell(x, 10 + n, ways[n]);
            isPath(x, 10 + n, 0, ways[n]);
        }
    }

    private static void eachMoveBarred() {
        due.part("allow: A move is allowed, or not");
        for (int from = 0; from < 4; from++) {
            for (int to = 0; to < 4; to++) {
                if (from == to) {
                    continue;
                }
                FieldTiles x = blank();
                tell(x, 63, "" + from + from + from + to + to + to);
                tell(x, 62, "" + to + to + to + from + from + from);
                due.is("allow(" + from + ", " + to + ", false)", x.allow(from, to, false), 1);
                due.is("the move is barred", x.path(63), 1);
                due.is("its way back is not", x.path(62), 0);
                due.is("allow(" + from + ", " + to + ", true)", x.allow(from, to, true), 1);
                due.is("it is allowed again", x.path(63), 0);
            }
        }
    }

    private static void stayingIsAllowed() {
        due.part("staying always is");
        FieldTiles x = blank();
        barAll(x);
        for (int k = 0; k < 4; k++) {
            due.is("allow(" + k + ", " + k + ", false)", x.allow(k, k, false), BAD);
            tell(x, 20 + k, "" + k + k + k + k + k + k);
            isPath(x, 20 + k, 0, "" + k + k + k + k + k + k);
        }
        tell(x, 30, "222333");
        isPath(x, 30, 3, "222222");
    }

    private static void allowAgain() {
        due.part("allow: the same twice");
        FieldTiles x = blank();
        tell(x, 9, "000111");
        x.allow(0, 1, false);
        due.is("not, again", x.allow(0, 1, false), 1);
        due.is("allowed, once", x.allow(0, 1, true), 1);
        isPath(x, 9, 0, "000111");
        due.is("allowed, again", x.allow(0, 1, true), 1);
        isPath(x, 9, 0, "000111");
    }

    private static void allowRefused() {
        due.part("allow: BAD: also to itself");
        FieldTiles x = blank();
        tell(x, 9, "012301");
        for (int k : Scene.WRONG_CLASSES) {
            due.is("from " + k, x.allow(k, 0, false), BAD);
            due.is("to " + k, x.allow(0, k, false), BAD);
            due.is("both " + k, x.allow(k, k, true), BAD);
        }
        for (int k = 0; k < 4; k++) {
            due.is("from " + k + " to itself", x.allow(k, k, true), BAD);
            due.is("from " + k + " to itself, not", x.allow(k, k, false), BAD);
        }
        isPath(x, 9, 0, "012301");
    }

    private static void pathWithoutClasses() {
        due.part("THE PATH of a CELL without a CLASS");
        isPath(new FieldTiles(), 0, 0, "000000");
        isPath(new FieldTiles(), 63, 0, "000000");
        FieldTiles x = blank();
        barAll(x);
        isPath(x, 63, 0, "000000");
    }

    private static void pathOfTheGreatestCost() {
        due.part("COST: 1 for each DATE whose CLASS (not NONE) is another one");
        FieldTiles x = blank();
        barAll(x);
        tell(x, 9, "321032");
        isPath(x, 9, 4, "222222");
        tell(x, 9, "32103.");
        isPath(x, 9, 3, "333333");
        tell(x, 9, "000001");
        isPath(x, 9, 1, "000000");
        tell(x, 9, "100000");
        isPath(x, 9, 1, "000000");
        tell(x, 9, "111222");
        isPath(x, 9, 3, "111111");
        tell(x, 9, "112222");
        isPath(x, 9, 2, "222222");
    }

    private static void noneCostsNothing() {
        due.part("a DATE whose CLASS is NONE costs nothing");
        FieldTiles x = blank();
        barAll(x);
        tell(x, 9, ".....3");
        isPath(x, 9, 0, "333333");
        tell(x, 9, "3.....");
        isPath(x, 9, 0, "333333");
        tell(x, 9, "2....1");
        isPath(x, 9, 1, "111111");
        x.allow(2, 3, true);
        x.allow(3, 1, true);
        isPath(x, 9, 0, "222231");
        x.allow(3, 2, true);
        isPath(x, 9, 0, "222231");
    }

    private static void leastClassWhereTheyPartFirst() {
        due.part("THE PATH has the least COST, of like ones the least CLASS where they part first");
        FieldTiles x = blank();
        tell(x, 9, "..3..2");
        isPath(x, 9, 0, "003002");
        tell(x, 9, "3.1.3.");
        isPath(x, 9, 0, "301030");
        // 1 to 3 by 0 or by 2: the lesser; by 2 where 0 is barred
        x = blank();
        x.allow(1, 3, false);
        tell(x, 9, "1.3333");
        isPath(x, 9, 0, "103333");
        x.allow(1, 0, false);
        isPath(x, 9, 0, "123333");
        x.allow(1, 2, false);
        isPath(x, 9, 1, "003333");
        // the first date that parts them counts, not the last: 000333 ahead of 112222
        x = blank();
        barAll(x);
        x.allow(0, 3, true);
        x.allow(1, 2, true);
        tell(x, 9, "..23..");
        isPath(x, 9, 1, "000333");
        tell(x, 9, "33.333");
        isPath(x, 9, 0, "333333");
        tell(x, 9, ".3....");
        isPath(x, 9, 0, "033333");
        // a lesser COST goes ahead of a lesser class
        tell(x, 9, ".3.000");
        isPath(x, 9, 1, "000000");
        tell(x, 9, "23.333");
        isPath(x, 9, 1, "033333");
    }

    private static void firstAndLastDate() {
        due.part("A PATH of a CELL: a CLASS for each DATE");
        FieldTiles x = blank();
        tell(x, 63, "300000");
        isPath(x, 63, 0, "300000");
        tell(x, 63, "000003");
        isPath(x, 63, 0, "000003");
        tell(x, 0, "123123");
        isPath(x, 0, 0, "123123");
        isPath(x, 63, 0, "000003");
    }

    private static void pathRefused() {
        due.part("path: BAD");
        FieldTiles x = blank();
        for (int c : Scene.WRONG_CELLS) {
            due.is("path(" + c + ")", x.path(c), BAD);
        }
        due.is("path(0)", x.path(0), 0);
        due.is("path(63)", x.path(63), 0);
    }

    private static void onRefused() {
        due.part("on: BAD");
        FieldTiles x = blank();
        for (int c : Scene.WRONG_CELLS) {
            due.is("on(" + c + ", 0)", x.on(c, 0), BAD);
        }
        for (int date : Scene.WRONG_DATES) {
            due.is("on(0, " + date + ")", x.on(0, date), BAD);
        }
        due.is("on(4, 0)", x.on(4, 0), 3);
        due.is("on(63, 5)", x.on(63, 5), 0);
    }

    private static void changedOnDatesOneToFive() {
        due.part("changed: How many DATES (1 to 5) have another CLASS than the one ahead");
        FieldTiles x = blank();
        // the samples' cells move from their class to 0 at date 1
        due.is("changed(1, 0)", x.changed(1, 0), 1);
        due.is("changed(0, 1)", x.changed(0, 1), 0);
        tell(x, 63, "233333");
        due.is("at date 1", x.changed(2, 3), 1);
        tell(x, 63, "222223");
        due.is("at date 5", x.changed(2, 3), 1);
        tell(x, 63, "232323");
        due.is("at dates 1, 3 and 5", x.changed(2, 3), 3);
        due.is("at dates 2 and 4", x.changed(3, 2), 2);
        tell(x, 63, "222222");
        due.is("staying", x.changed(2, 3), 0);
        tell(x, 63, "2.3333");
        due.is("by way of 0", x.changed(2, 3), 0);
        due.is("from 2 to 0, with the sample's cell", x.changed(2, 0), 2);
    }

    private static void changedOnAllCells() {
        due.part("changed: all CELLS together");
        FieldTiles x = new FieldTiles();
        for (int date = 0; date < 6; date++) {
            Scene.date(x, date, 10 * (date % 2), 0, 0);
        }
        x.sample(0, 0, 2);
        x.sample(1, 0, 1);
        due.is("changed(2, 1)", x.changed(2, 1), 3 * 64);
        due.is("changed(1, 2)", x.changed(1, 2), 2 * 64);
        x.put(0, 2, 0, 10);
        x.put(0, 2, 63, 10);
        due.is("without the first cell's class: nothing is 2 any more", x.changed(2, 1), 0);
        x.put(0, 2, 0, 0);
        due.is("without the last cell's first move", x.changed(2, 1), 3 * 64 - 1);
        x.allow(2, 1, false);
        due.is("where it is not allowed", x.changed(2, 1), 0);
        due.is("in a new object", new FieldTiles().changed(0, 1), 0);
    }

    private static void changedRefused() {
        due.part("changed: from CLASS i to CLASS j (not one twice). BAD");
        FieldTiles x = blank();
        for (int k = 0; k < 4; k++) {
            due.is("changed(" + k + ", " + k + ")", x.changed(k, k), BAD);
        }
        for (int k : Scene.WRONG_CLASSES) {
            due.is("from " + k, x.changed(k, 0), BAD);
            due.is("to " + k, x.changed(0, k), BAD);
            due.is("both " + k, x.changed(k, k), BAD);
        }
        due.is("changed(3, 0)", x.changed(3, 0), 1);
    }
}

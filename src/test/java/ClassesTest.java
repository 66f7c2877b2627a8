/** Promises 12 to 18: samples, the tree, the nearest sample and the classes. */
final class ClassesTest {
    private static final Due due = new Due("ClassesTest");
    private static final int LEAF = 4;

    private ClassesTest() {
    }

    public static void main(String[] args) {
        sample();
        forget();
        teaching();
        grow();
        treeByDepth();
        treeTies();
        treeExact();
        treeLeaves();
        treeOfForty();
        treeRefused();
        kindByTree();
        kindByNearest();
        kindFollowsTheState();
        many();
        due.end();
    }

    private static void sample() {
        due.part("promise 12");
        FieldTiles x = new FieldTiles();
        for (int wrong : Scene.WRONG_DATES) {
            due.is("date " + wrong, x.sample(wrong, 0, 0), -2000);
        }
        for (int wrong : Scene.WRONG_CELLS) {
            due.is("cell " + wrong, x.sample(0, wrong, 0), -2000);
        }
        for (int wrong : Scene.WRONG_CLASSES) {
            due.is("class " + wrong, x.sample(0, 0, wrong), -2000);
        }
        for (int n = 1; n <= 40; n++) {
            due.is("sample " + n, x.sample(n % 6, n, n % 4), n);
            due.is("count(0)", x.count(0), n);
        }
        due.is("one more than 40", x.sample(0, 0, 0), -2002);
        due.is("BAD ahead of FULL", x.sample(0, 0, 4), -2000);
        due.is("count(0)", x.count(0), 40);
        Scene.date(x, 0, 5, 5, 5);
        x.forget();
        due.is("the same one", x.sample(0, 5, 3), 1);
        due.is("the same one again", x.sample(0, 5, 3), 2);
        due.is("both teach", x.teaching(), 2);
    }

    private static void forget() {
        due.part("promise 13");
        FieldTiles x = Scene.fourClasses();
        due.is("kind(5, 2)", x.kind(5, 2), 2);
        due.is("forget()", x.forget(), 4);
        due.is("count(0)", x.count(0), 0);
        due.is("teaching()", x.teaching(), 0);
        due.is("kind(5, 2) without samples", x.kind(5, 2), 0);
        due.is("tree(0, 2)", x.tree(0, 2), 0);
        due.is("forget() again", x.forget(), 0);
        due.is("sample anew", x.sample(5, 0, 3), 1);
        due.is("kind(5, 2)", x.kind(5, 2), 3);
    }

    private static void teaching() {
        due.part("promise 14");
        FieldTiles x = new FieldTiles();
        x.sample(0, 3, 1);
        x.sample(0, 4, 1);
        x.sample(1, 3, 1);
        due.is("nothing seen", x.teaching(), 0);
        Scene.date(x, 0, 500, 1, 1);
        due.is("one date seen", x.teaching(), 2);
        Scene.date(x, 1, 500, 1, 1);
        due.is("both dates seen", x.teaching(), 3);
        x.put(0, 2, 3, 950);
        due.is("a cloud", x.teaching(), 2);
        x.sun(0, 1, 0);
        due.is("its shadow", x.teaching(), 1);
        x.clouds(900, 0);
        due.is("no shadow", x.teaching(), 2);
        x.clouds(499, 0);
        due.is("all clouds", x.teaching(), 0);
        x.clouds(1000, 0);
        due.is("no clouds", x.teaching(), 3);
        x.put(4, 2, 3, -1);
        due.is("a band missing", x.teaching(), 2);
        x.lose(2);
        due.is("a lost reel", x.teaching(), 0);
        due.is("count(0)", x.count(0), 3);
    }

    private static void grow() {
        due.part("promise 15");
        FieldTiles x = Scene.fourClasses();
        due.is("grow(0, 1)", x.grow(0, 1), 1);
        due.is("count(1)", x.count(1), 0);
        due.is("count(2)", x.count(2), 1);
        due.is("the tree is a leaf", x.tree(0, 0), LEAF);
        due.is("kind by the nearest", x.kind(5, 3), 3);
        due.is("grow(3, 0)", x.grow(3, 0), 1);
        due.is("count(1)", x.count(1), 3);
        due.is("count(2)", x.count(2), 0);
        int[][] wrong = {{-1, 0}, {4, 0}, {0, -1}, {0, 2}, {Integer.MAX_VALUE, 0}, {0, Integer.MIN_VALUE}};
        for (int[] w : wrong) {
            due.is("grow(" + w[0] + ", " + w[1] + ")", x.grow(w[0], w[1]), -2000);
        }
        due.is("count(1)", x.count(1), 3);
        due.is("count(2)", x.count(2), 0);
        due.is("kind by the tree", x.kind(5, 3), 3);
    }

    private static void node(FieldTiles x, int n, int feature, int number, int size) {
        due.is("tree(" + n + ", 0)", x.tree(n, 0), feature);
        due.is("tree(" + n + ", 1)", x.tree(n, 1), number);
        due.is("tree(" + n + ", 2)", x.tree(n, 2), size);
    }

    private static void noNode(FieldTiles x, int... nodes) {
        for (int n : nodes) {
            for (int what = 0; what < 3; what++) {
                due.is("tree(" + n + ", " + what + ")", x.tree(n, what), -2000);
            }
        }
    }

    private static void treeByDepth() {
        due.part("promise 16");
        // all three splits of four classes are worth 2, so the least number is taken each time
        FieldTiles x = Scene.fourClasses();
        node(x, 0, 0, 0, 4);
        node(x, 1, LEAF, 0, 1);
        node(x, 2, 0, 10, 3);
        node(x, 5, LEAF, 1, 1);
        node(x, 6, 0, 20, 2);
        node(x, 13, LEAF, 2, 1);
        node(x, 14, LEAF, 3, 1);
        noNode(x, 3, 4, 7, 8, 9, 10, 11, 12);
        x.grow(2, 0);
        node(x, 6, LEAF, 2, 2);
        noNode(x, 3, 4, 7, 8, 9, 10, 11, 12, 13, 14);
        x.grow(1, 1);
        node(x, 2, LEAF, 1, 3);
        noNode(x, 3, 4, 5, 6, 7, 14);
        x.grow(0, 0);
        node(x, 0, LEAF, 0, 4);
        noNode(x, 1, 2, 3, 14);
        wholeTree();
    }

    private static void wholeTree() {
        // halves of two classes each, quarters of three and one: worth 4 + 4, 5/2 + 5/2, 1 + 3
        FieldTiles x = taughtInARow(1, 0, 0, 0, 1, 1, 1, 0, 3, 2, 2, 2, 3, 3, 3, 2);
        int[][] nodes = {{8, 16}, {4, 8}, {12, 8}, {1, 4}, {7, 4}, {9, 4}, {15, 4}};
        for (int n = 0; n < 7; n++) {
            node(x, n, 0, nodes[n][0], nodes[n][1]);
        }
        int[][] leaves = {{1, 1}, {0, 3}, {1, 3}, {0, 1}, {3, 1}, {2, 3}, {3, 3}, {2, 1}};
        for (int n = 7; n < 15; n++) {
            node(x, n, LEAF, leaves[n - 7][0], leaves[n - 7][1]);
        }
        x.grow(2, 0);
        for (int n = 3; n < 7; n++) {
            node(x, n, LEAF, n - 3, 4);
        }
        noNode(x, 7, 8, 9, 10, 11, 12, 13, 14);
        x.grow(1, 0);
        node(x, 1, LEAF, 0, 8);
        node(x, 2, LEAF, 2, 8);
        noNode(x, 3, 4, 5, 6);
    }

    /** Samples of classes in the first cells of date 0, with three readings each. */
    private static FieldTiles taught(int[]... rows) {
        FieldTiles x = new FieldTiles();
        Scene.date(x, 0, 0, 0, 0);
        for (int s = 0; s < rows.length; s++) {
            Scene.cell(x, 0, s, rows[s]);
            x.sample(0, s, rows[s][3]);
        }
        x.grow(3, 0);
        return x;
    }

    private static void treeTies() {
        // features 1 and 2 part just as well: the lesser one; 0 parts nothing
        FieldTiles x = taught(new int[] {5, 1, 1, 0}, new int[] {5, 2, 2, 1});
        node(x, 0, 1, 1, 2);
        // the split that parts by feature 0 is worth less than that by feature 2
        x = taught(new int[] {1, 0, 9, 0}, new int[] {2, 0, 9, 0}, new int[] {1, 0, 3, 1}, new int[] {2, 0, 3, 1});
        node(x, 0, 2, 3, 4);
        node(x, 1, LEAF, 1, 2);
        node(x, 2, LEAF, 0, 2);
        // every split by BAND 1, BAND 2 or green is worth 2: the least feature, then the least number
        x = taught(new int[] {0, 1, 3, 2}, new int[] {0, 3, 1, 2}, new int[] {0, 2, 2, 1});
        node(x, 0, 1, 1, 3);
        // green parts what no band does: classes by BAND 2 less BAND 1
        x = taught(new int[] {0, 10, 5, 0}, new int[] {0, 20, 15, 0}, new int[] {0, 5, 10, 1},
                new int[] {0, 15, 20, 1});
        node(x, 0, 3, -143, 4);
        node(x, 1, LEAF, 0, 2);
        node(x, 2, LEAF, 1, 2);
    }

    /** Samples of classes with BAND 0 of 1, 2, 3, .. and nothing else that parts them. */
    private static FieldTiles taughtInARow(int... classes) {
        int[][] rows = new int[classes.length][];
        for (int s = 0; s < rows.length; s++) {
            rows[s] = new int[] {s + 1, 0, 0, classes[s]};
        }
        return taught(rows);
    }

    private static void treeExact() {
        // parting behind the second is worth 2 + 10/4, behind the fifth 13/5 + 1
        FieldTiles x = taughtInARow(0, 0, 1, 1, 1, 0);
        node(x, 0, 0, 2, 6);
        node(x, 1, LEAF, 0, 2);
        node(x, 2, 0, 5, 4);
        // whole-number division would find no better than the first: 1 + 3/3, 2/2 + 2/2, 5/3 + 1
        x = taughtInARow(0, 1, 0, 2);
        node(x, 0, 0, 3, 4);
        // 26/6 + 5/3 is as much as 40/8 + 1; rounded to thousandths the eighth would be worth more
        x = taughtInARow(0, 0, 1, 0, 0, 0, 1, 0, 1);
        node(x, 0, 0, 6, 9);
        // 2/2 + 26/6 is as much as 20/6 + 4/2; sums of doubles tell the sixth
        x = taughtInARow(0, 1, 0, 0, 0, 1, 0, 0);
        node(x, 0, 0, 2, 8);
        // BAND 0 parts 3 of 7 (3 + 4/4), BAND 1 parts 1 of 7 (1 + 12/6): the first is worth more
        x = taught(new int[] {1, 1, 0, 0}, new int[] {1, 2, 0, 0}, new int[] {1, 2, 0, 0}, new int[] {2, 2, 0, 1},
                new int[] {2, 2, 0, 2}, new int[] {2, 2, 0, 3}, new int[] {2, 2, 0, 3});
        node(x, 0, 0, 1, 7);
    }

    private static void treeLeaves() {
        FieldTiles x = new FieldTiles();
        node(x, 0, LEAF, 0, 0);
        noNode(x, 1, 2);
        // all of one class
        x = taught(new int[] {1, 0, 0, 3}, new int[] {2, 0, 0, 3});
        node(x, 0, LEAF, 3, 2);
        noNode(x, 1, 2);
        // no split: all features are alike
        x = taught(new int[] {1, 1, 1, 3}, new int[] {1, 1, 1, 2}, new int[] {1, 1, 1, 3});
        node(x, 0, LEAF, 3, 3);
        noNode(x, 1, 2);
        // of like ones the least class
        x = taught(new int[] {1, 1, 1, 3}, new int[] {1, 1, 1, 1}, new int[] {1, 1, 1, 1}, new int[] {1, 1, 1, 3});
        node(x, 0, LEAF, 1, 4);
        // a split that gains nothing is still taken
        x = taught(new int[] {1, 0, 0, 0}, new int[] {1, 0, 0, 1}, new int[] {2, 0, 0, 0}, new int[] {2, 0, 0, 1});
        node(x, 0, 0, 1, 4);
        node(x, 1, LEAF, 0, 2);
        node(x, 2, LEAF, 0, 2);
        noNode(x, 3, 4, 5, 6);
        // samples that are not clear are not in it
        x = taught(new int[] {1, 0, 0, 0}, new int[] {950, 0, 0, 1}, new int[] {2, 0, 0, 2});
        node(x, 0, 0, 1, 2);
    }

    private static void treeOfForty() {
        int[] classes = new int[40];
        for (int s = 0; s < 40; s++) {
            classes[s] = s < 13 ? 2 : s < 39 ? 1 : 3;
        }
        FieldTiles x = taughtInARow(classes);
        due.is("teaching()", x.teaching(), 40);
        node(x, 0, 0, 13, 40);
        node(x, 1, LEAF, 2, 13);
        node(x, 2, 0, 39, 27);
        node(x, 5, LEAF, 1, 26);
        node(x, 6, LEAF, 3, 1);
        due.is("kind(0, 39)", x.kind(0, 39), 3);
    }

    private static void treeRefused() {
        FieldTiles x = Scene.fourClasses();
        for (int wrong : new int[] {-1, 15, Integer.MIN_VALUE, Integer.MAX_VALUE}) {
            due.is("node " + wrong, x.tree(wrong, 0), -2000);
        }
        for (int wrong : new int[] {-1, 3, Integer.MIN_VALUE, Integer.MAX_VALUE}) {
            due.is("what " + wrong, x.tree(0, wrong), -2000);
        }
    }

    private static void kindByTree() {
        due.part("promise 17");
        FieldTiles x = Scene.fourClasses();
        Scene.date(x, 0, 0, 0, 0);
        int[][] rows = {{0, 0}, {1, 1}, {10, 1}, {11, 2}, {20, 2}, {21, 3}, {900, 3}, {901, -1}, {-1, -1}};
        for (int[] row : rows) {
            x.put(0, 2, 63, row[0]);
            due.is("kind with BAND 0 of " + row[0], x.kind(0, 63), row[1]);
        }
        x.put(0, 2, 62, 901);
        x.put(0, 2, 63, 30);
        x.sun(0, 1, 0);
        due.is("kind in the shadow", x.kind(0, 63), -1);
        for (int wrong : Scene.WRONG_DATES) {
            due.is("date " + wrong, x.kind(wrong, 0), -2000);
        }
        for (int wrong : Scene.WRONG_CELLS) {
            due.is("cell " + wrong, x.kind(0, wrong), -2000);
        }
        x = new FieldTiles();
        Scene.date(x, 0, 0, 0, 0);
        due.is("kind without samples, by the tree", x.kind(0, 0), 0);
    }

    private static void kindByNearest() {
        FieldTiles x = new FieldTiles();
        Scene.date(x, 0, 50, 50, 50);
        x.grow(2, 1);
        due.is("nothing teaches", x.kind(0, 63), -1);
        Scene.cell(x, 0, 0, new int[] {40, 50, 50});
        Scene.cell(x, 0, 1, new int[] {50, 50, 60});
        Scene.cell(x, 0, 2, new int[] {46, 46, 47});
        x.sample(0, 0, 3);
        due.is("the only one", x.kind(0, 63), 3);
        x.sample(0, 1, 1);
        due.is("of like ones the least number", x.kind(0, 63), 3);
        x.sample(0, 2, 2);
        due.is("11 is further than 10", x.kind(0, 63), 3);
        x.put(0, 2, 2, 47);
        due.is("10 is as far as 10", x.kind(0, 63), 3);
        x.put(1, 2, 2, 47);
        due.is("9 is nearer than 10", x.kind(0, 63), 2);
        x.put(0, 2, 2, 950);
        due.is("a cloud does not teach", x.kind(0, 63), 3);
        due.is("and has no class", x.kind(0, 2), -1);
        x.put(0, 2, 0, -1);
        due.is("without the first", x.kind(0, 63), 1);
        // green is no band: 0, 0, 0 lies further from 50, 50, 50 than 100, 100, 50 does
        x.forget();
        Scene.cell(x, 0, 0, new int[] {0, 0, 0});
        Scene.cell(x, 0, 1, new int[] {100, 100, 50});
        x.sample(0, 0, 1);
        x.sample(0, 1, 2);
        due.is("green does not count", x.kind(0, 63), 2);
        // each band counts by itself: 50, 40, 80 is at 5 from 50, 40, 75, and 50, 80, 40 is not
        x.forget();
        Scene.cell(x, 0, 0, new int[] {50, 80, 40});
        Scene.cell(x, 0, 1, new int[] {50, 40, 80});
        Scene.cell(x, 0, 63, new int[] {50, 40, 75});
        x.sample(0, 0, 1);
        x.sample(0, 1, 2);
        due.is("the second and the third band", x.kind(0, 63), 2);
        Scene.cell(x, 0, 63, new int[] {50, 75, 40});
        due.is("the other way round", x.kind(0, 63), 1);
        x.forget();
        due.is("nothing teaches any more", x.kind(0, 63), -1);
        Scene.date(x, 1, 0, 0, 0);
        Scene.cell(x, 0, 63, new int[] {900, 1000, 1000});
        x.sample(1, 0, 2);
        due.is("as far as can be", x.kind(0, 63), 2);
        x.clouds(1000, 2);
        Scene.cell(x, 0, 63, new int[] {1000, 1000, 1000});
        due.is("3000 off", x.kind(0, 63), 2);
    }

    private static void kindFollowsTheState() {
        FieldTiles x = Scene.fourClasses();
        Scene.date(x, 0, 25, 0, 0);
        due.is("at first", x.kind(0, 9), 3);
        x.put(0, 2, 9, 15);
        due.is("behind put", x.kind(0, 9), 2);
        x.paint(0, 0, 63, 5);
        due.is("behind paint", x.kind(0, 9), 1);
        x.put(0, 2, 0, 0);
        due.is("ahead of copy", x.kind(0, 9), 1);
        x.copy(0, 0, 0, 9, 1);
        due.is("behind copy", x.kind(0, 9), 0);
        x.put(15, 2, 0, 950);
        due.is("behind a sample's cloud", x.kind(0, 9), 1);
        x.put(0, 2, 10, 940);
        due.is("a cloud", x.kind(0, 10), -1);
        x.clouds(1000, 2);
        due.is("behind clouds", x.kind(0, 10), 0);
        x.put(15, 2, 0, 0);
        due.is("behind put on a sample", x.kind(0, 9), 0);
        x.reel(0, 1, 64);
        due.is("behind reel", x.kind(0, 9), 0);
        x.put(0, 1, 9, 25);
        due.is("behind put on it", x.kind(0, 9), 3);
        x.grow(1, 0);
        due.is("behind grow", x.kind(0, 9), 1);
        x.grow(1, 1);
        due.is("by the nearest", x.kind(0, 9), 2);
        x.sample(0, 9, 0);
        due.is("behind sample", x.kind(0, 9), 0);
        x.lose(1);
        due.is("behind lose", x.kind(0, 9), -1);
        x.reel(1, 0, 64);
        due.is("behind reel again", x.kind(0, 9), 0);
        x.clouds(24, 2);
        due.is("a cloud by BRIGHT", x.kind(0, 9), -1);
        x.sun(0, 0, 1);
        due.is("behind sun", x.kind(0, 17), -1);
        x.sun(0, 0, -1);
        due.is("behind sun again", x.kind(0, 17), 0);
        due.is("the other side", x.kind(0, 1), -1);
        x.forget();
        due.is("behind forget", x.kind(0, 17), -1);
    }

    private static void many() {
        due.part("promise 18");
        FieldTiles x = Scene.fourClasses();
        Scene.date(x, 0, 0, 0, 0);
        x.paint(0, 0, 9, 10);
        x.paint(0, 10, 16, 20);
        x.paint(0, 17, 19, 30);
        x.paint(0, 20, 24, 1001);
        int[] want = {5, 39, 10, 7, 3};
        for (int k = -1; k < 4; k++) {
            due.is("many(0, " + k + ")", x.many(0, k), want[k + 1]);
        }
        due.is("many(5, -1)", x.many(5, -1), 60);
        due.is("many(5, 3)", x.many(5, 3), 1);
        due.is("many(1, -1)", x.many(1, -1), 64);
        due.is("many(1, 0)", x.many(1, 0), 0);
        for (int wrong : Scene.WRONG_DATES) {
            due.is("date " + wrong, x.many(wrong, 0), -2000);
        }
        for (int wrong : new int[] {-2, 4, Integer.MIN_VALUE, Integer.MAX_VALUE}) {
            due.is("class " + wrong, x.many(0, wrong), -2000);
        }
    }
}

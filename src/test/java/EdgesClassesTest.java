import java.util.ArrayList;
import java.util.List;

/** The sentences of the document that name an edge: samples, tree, nearest sample, classes (12 to 18). */
final class EdgesClassesTest {
    private static final Due due = new Due("EdgesClassesTest");
    private static final int BAD = -2000, FULL = -2002, NONE = -1, LEAF = 4;
    private static final int LEAST = Integer.MIN_VALUE, MOST = Integer.MAX_VALUE;

    private EdgesClassesTest() {
    }

    public static void main(String[] args) {
        fortySamples();
        sampleRefused();
        sampleOfWhatIsNotThere();
        forgetNothingAndAll();
        teachNow();
        growAtFirst();
        growRefused();
        leafAtDepthZero();
        leafOfOneClass();
        leafWithoutASplit();
        leafOfLikeClasses();
        leafWithoutSamples();
        numberButTheGreatest();
        atMostGoesFirst();
        worthAddsBothSides();
        worthComparedExactly();
        worthUnlikeByTheLeast();
        worthAlikeByOtherSums();
        likeWorthLeastFeature();
        likeWorthLeastNumber();
        sidesAreOneLess();
        treeNodes();
        treeInBothModes();
        treeRefused();
        nearestOfLikeOnes();
        nearestByThreeBands();
        nearestFarthest();
        nearestWithoutTeachers();
        kindOfWhatIsNotClear();
        kindRefused();
        manyOfNone();
        manyOfABoard();
        manyRefused();
        due.end();
    }

    /** Samples in the first cells of date 0, a row each: three readings and the class. */
    private static FieldTiles taught(int[]... rows) {
        FieldTiles x = new FieldTiles();
        Scene.date(x, 0, 0, 0, 0);
        for (int s = 0; s < rows.length; s++) {
            Scene.cell(x, 0, s, rows[s]);
            x.sample(0, s, rows[s][3]);
        }
        x.grow(3, 0);
        return x;
    }

    /** Samples with BAND 0 of 1, 2, 3, .. that nothing else parts. */
    private static FieldTiles inARow(int... classes) {
        int[][] rows = new int[classes.length][];
        for (int s = 0; s < rows.length; s++) {
            rows[s] = new int[] {s + 1, 0, 0, classes[s]};
        }
        return taught(rows);
    }

    private static void node(FieldTiles x, int n, int feature, int number, int size) {
        due.is("tree(" + n + ", 0)", x.tree(n, 0), feature);
        due.is("tree(" + n + ", 1)", x.tree(n, 1), number);
        due.is("tree(" + n + ", 2)", x.tree(n, 2), size);
    }

    private static void noNode(FieldTiles x, int... nodes) {
        for (int n : nodes) {
            for (int what = 0; what < 3; what++) {
                due.is("tree(" + n + ", " + what + ")", x.tree(n, what), BAD);
            }
        }
    }

    private static int kindOf(FieldTiles x, int... readings) {
        Scene.cell(x, 0, 63, readings);
        return x.kind(0, 63);
    }

    private static void fortySamples() {
        due.part("SAMPLES, 40 at most; sample: FULL");
        FieldTiles x = new FieldTiles();
        Scene.date(x, 5, 1, 1, 1);
        due.is("none at first", x.count(0), 0);
        for (int n = 1; n <= 40; n++) {
            due.is("sample " + n, x.sample(5, 63, 3), n);
        }
        due.is("the 41st", x.sample(5, 63, 2), FULL);
        due.is("the 42nd", x.sample(5, 62, 2), FULL);
        due.is("count(0)", x.count(0), 40);
        due.is("all of them teach", x.teaching(), 40);
        due.is("tree(0, 2)", x.tree(0, 2), 40);
        due.is("all of them are of class 3", x.tree(0, 1), 3);
        due.is("BAD ahead of FULL: date", x.sample(6, 0, 0), BAD);
        due.is("BAD ahead of FULL: cell", x.sample(0, 64, 0), BAD);
        due.is("BAD ahead of FULL: class", x.sample(0, 0, -1), BAD);
        due.is("FULL is no finding", x.count(6), 0);
        due.is("forget()", x.forget(), 40);
        due.is("room again", x.sample(0, 0, 0), 1);
    }

    private static void sampleRefused() {
        due.part("sample: a DATE, a CELL, a CLASS (0 to 3). BAD");
        FieldTiles x = new FieldTiles();
        for (int date : Scene.WRONG_DATES) {
            due.is("date " + date, x.sample(date, 0, 0), BAD);
        }
        for (int c : Scene.WRONG_CELLS) {
            due.is("cell " + c, x.sample(0, c, 0), BAD);
        }
        for (int k : Scene.WRONG_CLASSES) {
            due.is("class " + k, x.sample(0, 0, k), BAD);
        }
        due.is("count(0)", x.count(0), 0);
        due.is("the first of all", x.sample(0, 0, 0), 1);
        due.is("the last of all", x.sample(5, 63, 3), 2);
    }

    private static void sampleOfWhatIsNotThere() {
        due.part("a SAMPLE of a CELL that is not CLEAR is one");
        FieldTiles x = new FieldTiles();
        due.is("of a date without readings", x.sample(3, 9, 1), 1);
        due.is("the same again", x.sample(3, 9, 1), 2);
        due.is("the same as another class", x.sample(3, 9, 2), 3);
        due.is("none teaches", x.teaching(), 0);
        Scene.date(x, 3, 1, 1, 1);
        due.is("all teach", x.teaching(), 3);
        due.is("tree(0, 2)", x.tree(0, 2), 3);
    }

    private static void forgetNothingAndAll() {
        due.part("forget: No SAMPLES: how many there were");
        FieldTiles x = new FieldTiles();
        due.is("none at first", x.forget(), 0);
        x.sample(0, 0, 1);
        due.is("one", x.forget(), 1);
        due.is("none again", x.forget(), 0);
        x = inARow(3, 3, 2);
        due.is("three", x.forget(), 3);
        node(x, 0, LEAF, 0, 0);
        due.is("teaching()", x.teaching(), 0);
        x.sample(0, 0, 1);
        node(x, 0, LEAF, 1, 1);
    }

    private static void teachNow() {
        due.part("Those that are CLEAR (now) teach");
        FieldTiles x = inARow(1, 1, 2);
        due.is("all", x.teaching(), 3);
        x.put(0, 2, 1, 900);
        due.is("at BRIGHT", x.teaching(), 3);
        x.put(0, 2, 1, 901);
        due.is("a CLOUD", x.teaching(), 2);
        x.sun(0, 1, 0);
        due.is("its shadow", x.teaching(), 1);
        x.clouds(900, 0);
        due.is("HIGH 0", x.teaching(), 2);
        x.put(0, 2, 1, -1);
        due.is("no READING", x.teaching(), 2);
        x.put(0, 2, 1, 5);
        due.is("all again", x.teaching(), 3);
        x.paint(0, 0, 2, -1);
        due.is("none, behind paint", x.teaching(), 0);
        x.copy(0, 62, 0, 0, 2);
        due.is("two, behind copy", x.teaching(), 2);
        x.paint(0, 0, 2, 7);
        due.is("all, behind paint", x.teaching(), 3);
        x.reel(2, 2, 2);
        due.is("a band of two items", x.teaching(), 2);
        x.reel(2, 2, 0);
        due.is("a band of no item", x.teaching(), 0);
        due.is("they are SAMPLES still", x.count(0), 3);
        node(x, 0, LEAF, 0, 0);
    }

    private static void growAtFirst() {
        due.part("DEPTH (told, 0 to 3; 2 at first); mode 0, at first");
        FieldTiles x = new FieldTiles();
        Scene.date(x, 0, 0, 0, 0);
        for (int k = 0; k < 4; k++) {
            x.put(0, 2, k, 10 * k);
            x.sample(0, k, k);
        }
        due.is("count(1)", x.count(1), 2);
        due.is("count(2)", x.count(2), 0);
        node(x, 0, 0, 0, 4);
        node(x, 2, 0, 10, 3);
        node(x, 6, LEAF, 2, 2);
        noNode(x, 13, 14);
        due.is("by the tree", x.kind(0, 3), 2);
        for (int depth = 0; depth <= 3; depth++) {
            due.is("grow(" + depth + ", 1)", x.grow(depth, 1), 1);
            due.is("count(1)", x.count(1), depth);
            due.is("count(2)", x.count(2), 1);
            due.is("by the nearest", x.kind(0, 3), 3);
            due.is("grow(" + depth + ", 0)", x.grow(depth, 0), 1);
            due.is("count(2)", x.count(2), 0);
            due.is("by the tree", x.kind(0, 3), depth);
        }
    }

    private static void growRefused() {
        due.part("grow: DEPTH (0 to 3) and mode. BAD");
        FieldTiles x = inARow(0, 1, 2, 3);
        x.grow(1, 1);
        int[][] wrong = {{-1, 0}, {4, 0}, {LEAST, 0}, {MOST, 0}, {3, -1}, {3, 2}, {3, LEAST}, {3, MOST}, {4, 2}};
        for (int[] w : wrong) {
            due.is("grow(" + w[0] + ", " + w[1] + ")", x.grow(w[0], w[1]), BAD);
            due.is("count(1)", x.count(1), 1);
            due.is("count(2)", x.count(2), 1);
        }
        noNode(x, 5, 6);
    }

    private static void leafAtDepthZero() {
        due.part("a node of samples at depth 0 is a LEAF");
        FieldTiles x = inARow(2, 1, 1);
        x.grow(0, 0);
        node(x, 0, LEAF, 1, 3);
        noNode(x, 1, 2, 14);
        due.is("every cell has its class", x.kind(0, 0), 1);
        due.is("many(0, 1)", x.many(0, 1), 64);
    }

    private static void leafOfOneClass() {
        due.part("a node all of one CLASS is a LEAF");
        FieldTiles x = inARow(3);
        node(x, 0, LEAF, 3, 1);
        noNode(x, 1, 2);
        x = inARow(2, 2, 2, 2);
        node(x, 0, LEAF, 2, 4);
        noNode(x, 1, 2);
        x = inARow(2, 2, 2, 1);
        node(x, 0, 0, 3, 4);
        node(x, 1, LEAF, 2, 3);
        node(x, 2, LEAF, 1, 1);
        noNode(x, 3, 4, 5, 6);
    }

    private static void leafWithoutASplit() {
        due.part("a node of one to whom no split is, is a LEAF");
        int[] one = {7, 8, 9, 2};
        int[] other = {7, 8, 9, 1};
        FieldTiles x = taught(one, other, one);
        node(x, 0, LEAF, 2, 3);
        noNode(x, 1, 2);
        // below the root: two alike with unlike classes on the FIRST side
        x = taught(one, other, new int[] {8, 8, 9, 3}, new int[] {8, 8, 9, 3});
        node(x, 0, 0, 7, 4);
        node(x, 1, LEAF, 1, 2);
        node(x, 2, LEAF, 3, 2);
        noNode(x, 3, 4, 5, 6);
    }

    private static void leafOfLikeClasses() {
        due.part("its CLASS is that of the most samples, of like ones the least");
        int[][] rows = {{3, 2, 2}, {2, 3, 2}, {3, 0, 0}, {0, 3, 0}, {1, 3, 1}, {3, 3, 3}};
        for (int[] row : rows) {
            FieldTiles x = inARow(row[0], row[1]);
            x.grow(0, 0);
            node(x, 0, LEAF, row[2], 2);
        }
        FieldTiles x = inARow(3, 2, 1, 0);
        x.grow(0, 0);
        node(x, 0, LEAF, 0, 4);
        x = inARow(0, 3, 1, 3, 1);
        x.grow(0, 0);
        node(x, 0, LEAF, 1, 5);
        x = inARow(0, 3, 1, 3, 1, 3);
        x.grow(0, 0);
        node(x, 0, LEAF, 3, 6);
    }

    private static void leafWithoutSamples() {
        due.part("a LEAF without samples: 0");
        FieldTiles x = new FieldTiles();
        for (int depth = 0; depth <= 3; depth++) {
            x.grow(depth, 0);
            node(x, 0, LEAF, 0, 0);
            noNode(x, 1, 2, 14);
        }
        Scene.date(x, 0, 1, 1, 1);
        due.is("kind(0, 0)", x.kind(0, 0), 0);
        due.is("many(0, 0)", x.many(0, 0), 64);
        x.sample(1, 0, 3);
        due.is("with a sample that does not teach", x.kind(0, 0), 0);
    }

    private static void numberButTheGreatest() {
        due.part("a number t (one of the samples' own, but the greatest)");
        FieldTiles x = taught(new int[] {5, 0, 0, 0}, new int[] {9, 0, 0, 1});
        node(x, 0, 0, 5, 2);
        due.is("nearer to 9, but above 5", kindOf(x, 6, 0, 0), 1);
        // the greatest of BAND 0 would be worth most if it were a split at all
        x = taught(new int[] {5, 1, 0, 0}, new int[] {5, 1, 0, 1});
        node(x, 0, LEAF, 0, 2);
        x = taught(new int[] {1000, 0, 0, 1}, new int[] {0, 0, 0, 0});
        x.clouds(1000, 2);
        node(x, 0, 0, 0, 2);
        due.is("the greatest reading", kindOf(x, 1000, 0, 0), 1);
        due.is("the least reading", kindOf(x, 0, 0, 0), 0);
    }

    private static void atMostGoesFirst() {
        due.part("f at most t goes to the FIRST side, others to the SECOND");
        FieldTiles x = taught(new int[] {5, 0, 0, 3}, new int[] {9, 0, 0, 1}, new int[] {5, 0, 0, 3});
        node(x, 0, 0, 5, 3);
        node(x, 1, LEAF, 3, 2);
        node(x, 2, LEAF, 1, 1);
        due.is("below t", kindOf(x, 4, 0, 0), 3);
        due.is("at t", kindOf(x, 5, 0, 0), 3);
        due.is("above t", kindOf(x, 6, 0, 0), 1);
        // BAND 1 and GREEN part these alike
        x = taught(new int[] {0, 40, 10, 2}, new int[] {0, 10, 15, 1}, new int[] {0, 10, 40, 1},
                new int[] {0, 40, 15, 2});
        node(x, 0, 1, 10, 4);
        // GREEN alone parts these, below 0: -600, -200, 200, 600
        x = taught(new int[] {0, 4, 1, 2}, new int[] {0, 12, 8, 2}, new int[] {0, 1, 4, 1}, new int[] {0, 8, 12, 1});
        node(x, 0, 3, -200, 4);
        due.is("GREEN at t", kindOf(x, 0, 12, 8), 2);
        due.is("GREEN below t", kindOf(x, 0, 1000, 0), 2);
        due.is("GREEN above t", kindOf(x, 0, 1000, 999), 1);
    }

    private static void worthAddsBothSides() {
        due.part("WORTH: over both sides the sum of (squares) by (how many there are)");
        // 1 + 7/5, 2 + 6/4, 5/3 + 5/3, 6/4 + 2, 7/5 + 1
        node(inARow(0, 0, 1, 2, 3, 3), 0, 0, 2, 6);
        // 1 + 9/5, 2 + 6/4, 3 + 5/3, 10/4 + 1, 13/5 + 1
        node(inARow(0, 0, 0, 1, 1, 2), 0, 0, 3, 6);
        // 1 + 3/3, 2/2 + 2/2, 5/3 + 1: the last split there is
        node(inARow(0, 1, 0, 2), 0, 0, 3, 4);
    }

    private static void worthComparedExactly() {
        due.part("The greatest WORTH is taken (compared exactly)");
        // behind the 6th 26/6 + 5/3, behind the 8th 40/8 + 1: alike, but not if each is rounded to thousandths
        node(inARow(0, 0, 1, 0, 0, 0, 1, 0, 1), 0, 0, 6, 9);
        // 1 + 5/3 is as 5/3 + 1: in truth alike, so the least number
        node(inARow(0, 1, 1, 0), 0, 0, 1, 4);
        // behind the 2nd 2/2 + 26/6, behind the 6th 20/6 + 4/2: alike, but not as sums of doubles
        node(inARow(0, 1, 0, 0, 0, 1, 0, 0), 0, 0, 2, 8);
        int[] most = new int[40];
        for (int s = 0; s < 40; s++) {
            most[s] = s == 19 ? 1 : 0;
        }
        // of forty the 20th is another: behind it 362/20 + 20, ahead of it 19 + 401/21
        node(inARow(most), 0, 0, 20, 40);
        most[19] = 0;
        most[20] = 1;
        // of forty the 21st is another: ahead of it 20 + 362/20, behind it 401/21 + 19
        node(inARow(most), 0, 0, 20, 40);
    }

    /** Samples that two splits part: by BAND 0 and by BAND 1, of each class so many on the first side. */
    private static FieldTiles byTwoSplits(int[] all, int[] firstByZero, int[] firstByOne) {
        List<int[]> rows = new ArrayList<>();
        for (int k = 0; k < all.length; k++) {
            for (int s = 0; s < all[k]; s++) {
                // with a BAND 2 of 0 GREEN is -1000 for all
                rows.add(new int[] {s < firstByZero[k] ? 0 : 1, s < firstByOne[k] ? 1 : 2, 0, k});
            }
        }
        return taught(rows.toArray(new int[0][]));
    }

    private static void worthUnlikeByTheLeast() {
        due.part("The greatest WORTH is taken (compared exactly): forty samples, 2 by 156009 apart");
        int[] all = {19, 13, 8};
        int[] less = {9, 7, 1};
        int[] more = {7, 6, 6};
        // 6158/391 and 6284/399: no two of forty samples or fewer are nearer to one another
        node(byTwoSplits(all, less, more), 0, 1, 1, 40);
        node(byTwoSplits(all, less, more), 1, 0, 0, 19);
        node(byTwoSplits(all, more, less), 0, 0, 0, 40);
        due.is("tree(1, 2)", byTwoSplits(all, more, less).tree(1, 2), 19);
    }

    private static void worthAlikeByOtherSums() {
        due.part("of like ones the least f (compared exactly)");
        int[] all = {6, 2};
        // 2/2 + 26/6 and 4/2 + 20/6: the one is greater as a sum of floats, the other as one of doubles
        node(byTwoSplits(all, new int[] {1, 1}, new int[] {2, 0}), 0, 0, 0, 8);
        node(byTwoSplits(all, new int[] {2, 0}, new int[] {1, 1}), 0, 0, 0, 8);
    }

    private static void likeWorthLeastFeature() {
        due.part("of like ones the least f");
        for (int first = 0; first < 3; first++) {
            int[] low = {4, 4, 4, 0};
            int[] high = {4, 4, 4, 1};
            for (int f = first; f < 3; f++) {
                low[f] = 1;
                high[f] = 2 + f;
            }
            node(taught(low, high), 0, first, 1, 2);
            node(taught(high, low), 0, first, 1, 2);
        }
        // a later feature that is worth more is taken: BAND 2 parts all, BAND 0 and 1 do not
        node(taught(new int[] {1, 1, 0, 0}, new int[] {2, 2, 0, 0}, new int[] {1, 1, 1, 1}, new int[] {2, 2, 1, 1}),
                0, 2, 0, 4);
    }

    private static void likeWorthLeastNumber() {
        due.part("of like ones the least f, then the least t");
        node(inARow(0, 1, 2), 0, 0, 1, 3);
        node(inARow(2, 1, 0), 0, 0, 1, 3);
        // the samples' order is not that of their numbers
        node(taught(new int[] {30, 0, 0, 0}, new int[] {20, 0, 0, 1}, new int[] {10, 0, 0, 2}), 0, 0, 10, 3);
        // the least f goes ahead of the least t: BAND 0 at 500, BAND 1 at 1
        node(taught(new int[] {500, 1, 0, 0}, new int[] {600, 2, 0, 1}), 0, 0, 500, 2);
    }

    private static void sidesAreOneLess() {
        due.part("Both sides are nodes of depth 1 less");
        int[] classes = {1, 0, 0, 0, 1, 1, 1, 0, 3, 2, 2, 2, 3, 3, 3, 2};
        FieldTiles x = inARow(classes);
        for (int depth = 0; depth <= 3; depth++) {
            x.grow(depth, 0);
            int inner = (1 << depth) - 1;
            for (int n = 0; n < 15; n++) {
                int want = n < inner ? 0 : n < 2 * inner + 1 ? LEAF : BAD;
                due.is("DEPTH " + depth + ": tree(" + n + ", 0)", x.tree(n, 0), want);
                due.is("DEPTH " + depth + ": tree(" + n + ", 2)", x.tree(n, 2) == BAD ? 1 : 0, want == BAD ? 1 : 0);
            }
        }
        for (int c = 0; c < 16; c++) {
            due.is("kind(0, " + c + ")", x.kind(0, c), classes[c]);
        }
    }

    private static void treeNodes() {
        due.part("tree: 2 n and 1 the FIRST side of n, 2 n and 2 the SECOND");
        // the FIRST side is parted on, the SECOND is a LEAF
        FieldTiles x = inARow(0, 1, 2, 2, 2, 2);
        node(x, 0, 0, 2, 6);
        node(x, 1, 0, 1, 2);
        node(x, 2, LEAF, 2, 4);
        node(x, 3, LEAF, 0, 1);
        node(x, 4, LEAF, 1, 1);
        noNode(x, 5, 6, 7, 8, 9, 10, 11, 12, 13, 14);
        // the SECOND side is parted on, the FIRST is a LEAF
        x = inARow(2, 2, 2, 2, 0, 1);
        node(x, 0, 0, 4, 6);
        node(x, 1, LEAF, 2, 4);
        node(x, 2, 0, 5, 2);
        node(x, 5, LEAF, 0, 1);
        node(x, 6, LEAF, 1, 1);
        noNode(x, 3, 4, 7, 8, 9, 10, 11, 12, 13, 14);
    }

    private static void treeInBothModes() {
        due.part("tree: Of the TREE, whatever the mode");
        FieldTiles x = inARow(0, 1);
        x.grow(3, 1);
        node(x, 0, 0, 1, 2);
        node(x, 1, LEAF, 0, 1);
        node(x, 2, LEAF, 1, 1);
    }

    private static void treeRefused() {
        due.part("tree: BAD: also where there is no such node");
        FieldTiles x = inARow(0, 1);
        for (int n : new int[] {-1, 15, 16, LEAST, MOST}) {
            due.is("node " + n, x.tree(n, 0), BAD);
        }
        for (int what : new int[] {-1, 3, LEAST, MOST}) {
            due.is("what " + what, x.tree(0, what), BAD);
            due.is("what " + what + " of no node", x.tree(14, what), BAD);
        }
        noNode(x, 3, 4, 5, 6, 14);
        // a node that there was is gone with the samples
        x.forget();
        noNode(x, 1, 2);
        due.is("BAD is no finding", x.count(6), 0);
    }

    private static void nearestOfLikeOnes() {
        due.part("NEAREST: of like ones the least number");
        FieldTiles x = taught(new int[] {10, 10, 10, 3}, new int[] {30, 10, 10, 0}, new int[] {10, 10, 10, 1});
        x.grow(2, 1);
        due.is("the same place: the first sample", kindOf(x, 10, 10, 10), 3);
        due.is("halfway: the first sample", kindOf(x, 20, 10, 10), 3);
        due.is("a little nearer to the second", kindOf(x, 21, 10, 10), 0);
        due.is("a little nearer to the first", kindOf(x, 19, 10, 10), 3);
        // the number of the sample is told, not that of its cell
        x.forget();
        x.sample(0, 2, 1);
        x.sample(0, 0, 3);
        due.is("the same place: the sample that was first", kindOf(x, 10, 10, 10), 1);
        x.put(0, 2, 2, -1);
        due.is("it does not teach: the other one", kindOf(x, 10, 10, 10), 3);
    }

    private static void nearestByThreeBands() {
        due.part("NEAREST: the least sum of differences of three BANDS");
        for (int band = 0; band < 3; band++) {
            int[] far = {50, 50, 50, 0};
            int[] near = {50, 50, 50, 1};
            far[band] = 60;
            near[band] = 41;
            FieldTiles x = taught(far, near);
            x.grow(0, 1);
            due.is("10 above, 9 below in band " + band, kindOf(x, 50, 50, 50), 1);
        }
        // each band beside the same band: these three have the same readings in another order
        int[][] orders = {{10, 200, 500, 1}, {200, 500, 10, 2}, {500, 10, 200, 3}};
        FieldTiles x = taught(orders);
        x.grow(0, 1);
        for (int[] order : orders) {
            int[] near = {order[0] + 1, order[1] - 1, order[2] + 1};
            due.is("near the sample of class " + order[3], kindOf(x, near), order[3]);
        }
        // GREEN is no band: by it the second would be the nearest
        x = taught(new int[] {0, 0, 0, 1}, new int[] {0, 0, 300, 2});
        x.grow(0, 1);
        due.is("100 against 200", kindOf(x, 0, 0, 100), 1);
        // a sum, neither the greatest one nor squares: 3 and 3 and 3 is nearer than 10, farther than 8
        x = taught(new int[] {53, 47, 53, 2}, new int[] {50, 60, 50, 1});
        x.grow(0, 1);
        due.is("9 against 10", kindOf(x, 50, 50, 50), 2);
        x.put(1, 2, 1, 58);
        due.is("9 against 8", kindOf(x, 50, 50, 50), 1);
    }

    private static void nearestFarthest() {
        due.part("NEAREST: one that is as far as can be");
        FieldTiles x = taught(new int[] {0, 0, 0, 2});
        x.grow(0, 1);
        x.clouds(1000, 0);
        due.is("3000", kindOf(x, 1000, 1000, 1000), 2);
        Scene.cell(x, 0, 0, new int[] {1000, 1000, 1000});
        due.is("3000 the other way", kindOf(x, 0, 0, 0), 2);
    }

    private static void nearestWithoutTeachers() {
        due.part("NONE: (mode 1) nothing teaches");
        FieldTiles x = taught();
        due.is("by the tree without samples", x.kind(0, 9), 0);
        x.grow(2, 1);
        due.is("by the nearest without samples", x.kind(0, 9), NONE);
        due.is("many(0, NONE)", x.many(0, NONE), 64);
        x.sample(1, 0, 3);
        due.is("with one that does not teach", x.kind(0, 9), NONE);
        Scene.date(x, 1, 500, 0, 0);
        due.is("it teaches", x.kind(0, 9), 3);
        x.lose(4);
        due.is("it does not any more", x.kind(0, 9), NONE);
        x.grow(2, 0);
        due.is("by the tree", x.kind(0, 9), 0);
    }

    private static void kindOfWhatIsNotClear() {
        due.part("NONE: it is not CLEAR");
        for (int mode = 0; mode < 2; mode++) {
            FieldTiles x = taught(new int[] {1, 1, 1, 3});
            x.grow(1, mode);
            x.sun(0, 1, 0);
            x.put(0, 2, 33, 901);
            x.put(1, 2, 50, 1001);
            due.is("a CLEAR one", x.kind(0, 32), 3);
            due.is("a CLOUD", x.kind(0, 33), NONE);
            due.is("SHADOWED", x.kind(0, 34), NONE);
            due.is("SHADOWED", x.kind(0, 35), NONE);
            due.is("behind the shadow", x.kind(0, 36), 3);
            due.is("a READING missing", x.kind(0, 50), NONE);
            due.is("a date without readings", x.kind(1, 0), NONE);
        }
    }

    private static void kindRefused() {
        due.part("kind: BAD");
        FieldTiles x = taught(new int[] {1, 1, 1, 3});
        due.is("kind(0, 63)", x.kind(0, 63), 3);
        due.is("kind(5, 63)", x.kind(5, 63), NONE);
        for (int date : Scene.WRONG_DATES) {
            due.is("date " + date, x.kind(date, 0), BAD);
        }
        for (int c : Scene.WRONG_CELLS) {
            due.is("cell " + c, x.kind(0, c), BAD);
        }
    }

    private static void manyOfNone() {
        due.part("many: (NONE: none)");
        FieldTiles x = taught(new int[] {1, 1, 1, 3});
        due.is("no cell has none", x.many(0, NONE), 0);
        due.is("every cell has none", x.many(5, NONE), 64);
        x.put(0, 2, 0, -1);
        x.put(0, 2, 63, -1);
        due.is("the first and the last have none", x.many(0, NONE), 2);
    }

    private static void manyOfABoard() {
        due.part("many: How many CELLS of a DATE have a CLASS");
        FieldTiles x = Scene.fourClasses();
        Scene.date(x, 0, 30, 0, 0);
        due.is("all 64", x.many(0, 3), 64);
        x.put(0, 2, 0, 20);
        x.put(0, 2, 63, 20);
        due.is("the first and the last", x.many(0, 2), 2);
        due.is("all others", x.many(0, 3), 62);
        due.is("none", x.many(0, 1), 0);
    }

    private static void manyRefused() {
        due.part("many: BAD");
        FieldTiles x = taught(new int[] {1, 1, 1, 3});
        for (int date : Scene.WRONG_DATES) {
            due.is("date " + date, x.many(date, 0), BAD);
            due.is("NONE on date " + date, x.many(date, NONE), BAD);
        }
        for (int k : new int[] {-2, 4, LEAST, MOST}) {
            due.is("class " + k, x.many(0, k), BAD);
        }
    }
}

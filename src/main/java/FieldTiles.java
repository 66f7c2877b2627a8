import java.util.Arrays;

/**
 * Fields from above: pictures on reels, clouds and shadows, classes learnt from samples, smoothed
 * boards, paths of classes over the dates, and areas corrected by proofs.
 *
 * The face looks at the arguments and answers BAD; the classes inside hold one part of the document
 * each and are handed only dates, cells, classes and reels that there are.
 */
public final class FieldTiles {
    public static final int NONE = -1, BAD = -2000, NOT = -2001, FULL = -2002;

    private static final int SIDE = 8, CELLS = 64, DATES = 6, BANDS = 3, REELS = 18, FORMS = 3;
    private static final int CLASSES = 4, FEATURES = 4, GREEN = 3, TOP_READING = 1000;
    private static final int MOST_SAMPLES = 40, MOST_DEPTH = 3, NODES = 15;
    private static final int TOP_WEIGHT = 100, TOP_PROOF = 1000, TOP_HIGH = 4, TOP_STEP = 2;
    private static final int LEAST_INT = -2147483648;

    private final Reels reels;
    private final Sky sky;
    private final Samples samples;
    private final Kinds kinds;
    private final Smoother smoother;
    private final Paths paths;
    private final Proofs proofs;

    public FieldTiles() {
        Reels rows = new Reels();
        Sky above = new Sky(rows);
        Samples seen = new Samples();
        reels = rows;
        sky = above;
        samples = seen;
        kinds = new Kinds(above, seen);
        smoother = new Smoother();
        paths = new Paths();
        proofs = new Proofs();
    }

    // ---- reels

    public int reel(int r, int form, int n) {
        if (!isReel(r) || !isForm(form) || n > CELLS) {
            return BAD;
        }
        if (n < 0) {
            return reels.find(Reels.SIZE);
        }
        reels.wind(r, form, n);
        kinds.outdate();
        return n;
    }

    public int lose(int r) {
        if (!isReel(r)) {
            return BAD;
        }
        if (reels.isLost(r)) {
            return reels.find(Reels.NULL);
        }
        int had = reels.sizeOf(r);
        reels.drop(r);
        kinds.outdate();
        return had;
    }

    public int put(int r, int form, int i, int v) {
        if (!isReel(r) || !isForm(form)) {
            return BAD;
        }
        int flaw = reels.flawOfItem(r, form, i);
        if (flaw != Reels.FINE) {
            return reels.find(flaw);
        }
        reels.fill(r, i, i, v);
        kinds.outdate();
        return 1;
    }

    public int get(int r, int form, int i) {
        if (!isReel(r) || !isForm(form)) {
            return LEAST_INT;
        }
        int flaw = reels.flawOfItem(r, form, i);
        if (flaw != Reels.FINE) {
            reels.find(flaw);
            return LEAST_INT;
        }
        return reels.itemOf(r, i);
    }

    public int copy(int r, int i, int q, int j, int n) {
        if (!isReel(r) || !isReel(q)) {
            return BAD;
        }
        int flaw = reels.flawOfMove(r, i, q, j, n);
        if (flaw != Reels.FINE) {
            return reels.find(flaw);
        }
        reels.move(r, i, q, j, n);
        kinds.outdate();
        return 1;
    }

    public int paint(int r, int from, int to, int v) {
        if (!isReel(r) || from < 0 || from > to || to >= CELLS) {
            return BAD;
        }
        if (reels.isLost(r)) {
            return reels.find(Reels.NULL);
        }
        if (to >= reels.sizeOf(r)) {
            return reels.find(Reels.INDEX);
        }
        reels.fill(r, from, to, v);
        kinds.outdate();
        return to - from + 1;
    }

    // ---- clouds

    public int clouds(int bright, int high) {
        if (!within(bright, 0, TOP_READING) || !within(high, 0, TOP_HIGH)) {
            return BAD;
        }
        sky.setClouds(bright, high);
        kinds.outdate();
        return 1;
    }

    public int sun(int date, int x, int y) {
        if (!isDate(date) || !within(x, -TOP_STEP, TOP_STEP) || !within(y, -TOP_STEP, TOP_STEP)) {
            return BAD;
        }
        sky.setSun(date, x, y);
        kinds.outdate();
        return 1;
    }

    public int sky(int date, int c) {
        return isDate(date) && isCell(c) ? sky.stateAt(date, c) : BAD;
    }

    public int feature(int date, int c, int f) {
        if (!isDate(date) || !isCell(c) || !within(f, 0, FEATURES - 1)) {
            return BAD;
        }
        return sky.stateAt(date, c) == Sky.CLEAR ? sky.featureAt(date, c, f) : NOT;
    }

    // ---- classes

    public int sample(int date, int c, int k) {
        if (!isDate(date) || !isCell(c) || !isClass(k)) {
            return BAD;
        }
        if (samples.number() >= MOST_SAMPLES) {
            return FULL;
        }
        samples.add(date, c, k);
        kinds.outdate();
        return samples.number();
    }

    public int forget() {
        int had = samples.number();
        samples.clear();
        kinds.outdate();
        return had;
    }

    public int teaching() {
        kinds.renew();
        return samples.teachers();
    }

    public int grow(int depth, int mode) {
        if (!within(depth, 0, MOST_DEPTH) || !within(mode, Kinds.BY_TREE, Kinds.BY_NEAREST)) {
            return BAD;
        }
        kinds.setManner(depth, mode);
        return 1;
    }

    public int tree(int n, int what) {
        if (!within(n, 0, NODES - 1) || !within(what, 0, 2)) {
            return BAD;
        }
        kinds.renew();
        return kinds.grown().tell(n, what);
    }

    public int kind(int date, int c) {
        if (!isDate(date) || !isCell(c)) {
            return BAD;
        }
        kinds.renew();
        return kinds.classAt(date, c);
    }

    public int many(int date, int k) {
        if (!isDate(date) || k != NONE && !isClass(k)) {
            return BAD;
        }
        kinds.renew();
        return kinds.tally(date, k);
    }

    // ---- smoothing

    public int weigh(int own, int edge) {
        if (!within(own, 0, TOP_WEIGHT) || !within(edge, 0, TOP_WEIGHT)) {
            return BAD;
        }
        smoother.setWeights(own, edge);
        return 1;
    }

    public int smooth(int date, int k) {
        if (!isDate(date) || !isClass(k)) {
            return BAD;
        }
        kinds.renew();
        return smoother.settle(kinds, date, k);
    }

    public int mark(int c) {
        return isCell(c) ? smoother.markOf(c) : BAD;
    }

    // ---- paths

    public int allow(int from, int to, boolean is) {
        if (!isClass(from) || !isClass(to) || from == to) {
            return BAD;
        }
        paths.setMove(from, to, is);
        return 1;
    }

    public int path(int c) {
        if (!isCell(c)) {
            return BAD;
        }
        kinds.renew();
        paths.seek(kinds, c);
        return paths.cost();
    }

    public int on(int c, int date) {
        if (!isCell(c) || !isDate(date)) {
            return BAD;
        }
        kinds.renew();
        paths.seek(kinds, c);
        return paths.classOn(date);
    }

    public int changed(int i, int j) {
        if (!isClass(i) || !isClass(j) || i == j) {
            return BAD;
        }
        kinds.renew();
        int moves = 0;
        for (int c = 0; c < CELLS; c++) {
            paths.seek(kinds, c);
            moves += paths.moves(i, j);
        }
        return moves;
    }

    // ---- areas

    public int prove(int i, int j, int n) {
        if (!isClass(i) || !isClass(j) || !within(n, 1, TOP_PROOF)) {
            return BAD;
        }
        return proofs.add(i, j, n);
    }

    public long area(int date, int j) {
        if (!isDate(date) || !isClass(j)) {
            return BAD;
        }
        kinds.renew();
        return proofs.areaOf(kinds, date, j);
    }

    public int count(int what) {
        switch (what) {
            case 0: return samples.number();
            case 1: return kinds.depth();
            case 2: return kinds.mode();
            case 3: return smoother.own();
            case 4: return smoother.edge();
            case 5: return reels.held();
            case 6: return reels.latest();
            case 7: return sky.bright();
            case 8: return sky.high();
            default: return BAD;
        }
    }

    public long digest() {
        kinds.renew();
        long h = 17;
        for (int what = 0; what <= 8; what++) {
            if (what != 6) {
                h = 31 * h + count(what);
            }
        }
        for (int date = 0; date < DATES; date++) {
            for (int c = 0; c < CELLS; c++) {
                h = 31 * h + sky.stateAt(date, c);
            }
            for (int c = 0; c < CELLS; c += SIDE + 1) {
                h = 31 * h + kinds.classAt(date, c);
            }
        }
        for (int c = 0; c < CELLS; c++) {
            h = 31 * h + smoother.markOf(c);
        }
        return h;
    }

    private static boolean within(int v, int least, int most) {
        return v >= least && v <= most;
    }

    private static boolean isReel(int r) {
        return within(r, 0, REELS - 1);
    }

    private static boolean isForm(int form) {
        return within(form, 0, FORMS - 1);
    }

    private static boolean isDate(int date) {
        return within(date, 0, DATES - 1);
    }

    private static boolean isCell(int c) {
        return within(c, 0, CELLS - 1);
    }

    private static boolean isClass(int k) {
        return within(k, 0, CLASSES - 1);
    }

    /** The rows of the reels. All have room for 64 ints from the start, so winding one anew makes nothing. */
    private static final class Reels {
        static final int FINE = 0, NULL = 1, INDEX = 2, CAST = 3, STORE = 4, SIZE = 5;
        private static final int LOST = -1, BYTES = 0, SHORTS = 1;

        private final int[] items = new int[REELS * CELLS];
        private final int[] forms = new int[REELS];
        // 0 for a lost reel, so that a reading needs only this one test
        private final int[] sizes = new int[REELS];
        private int latest = FINE;

        Reels() {
            Arrays.fill(forms, LOST);
        }

        int find(int flaw) {
            latest = flaw;
            return -10 - flaw;
        }

        int latest() {
            return latest;
        }

        boolean isLost(int r) {
            return forms[r] == LOST;
        }

        int sizeOf(int r) {
            return sizes[r];
        }

        int held() {
            int held = 0;
            for (int r = 0; r < REELS; r++) {
                held += isLost(r) ? 0 : 1;
            }
            return held;
        }

        void wind(int r, int form, int n) {
            forms[r] = form;
            sizes[r] = n;
            fill(r, 0, n - 1, 0);
        }

        void drop(int r) {
            forms[r] = LOST;
            sizes[r] = 0;
        }

        int flawOfItem(int r, int form, int i) {
            if (isLost(r)) {
                return NULL;
            }
            if (forms[r] != form) {
                return CAST;
            }
            return i < 0 || i >= sizes[r] ? INDEX : FINE;
        }

        int flawOfMove(int r, int i, int q, int j, int n) {
            if (isLost(r) || isLost(q)) {
                return NULL;
            }
            if (forms[r] != forms[q]) {
                return STORE;
            }
            return hasRun(r, i, n) && hasRun(q, j, n) ? FINE : INDEX;
        }

        private boolean hasRun(int r, int from, int n) {
            // no sum of the two: it might wrap
            return from >= 0 && n >= 0 && from <= sizes[r] && n <= sizes[r] - from;
        }

        int itemOf(int r, int i) {
            return items[CELLS * r + i];
        }

        void fill(int r, int from, int to, int v) {
            int fitting = fitted(forms[r], v);
            for (int i = from; i <= to; i++) {
                items[CELLS * r + i] = fitting;
            }
        }

        private static int fitted(int form, int v) {
            if (form == BYTES) {
                return (byte) v;
            }
            return form == SHORTS ? (short) v : v;
        }

        void move(int r, int i, int q, int j, int n) {
            System.arraycopy(items, CELLS * r + i, items, CELLS * q + j, n);
        }

        int reading(int date, int band, int c) {
            int r = BANDS * date + band;
            if (c >= sizes[r]) {
                return NONE;
            }
            int v = items[CELLS * r + c];
            return v >= 0 && v <= TOP_READING ? v : NONE;
        }
    }

    /** Clouds, their shadows, and what is seen of the cells between them. */
    private static final class Sky {
        static final int MISSING = 0, CLOUD = 1, SHADOWED = 2, CLEAR = 3;

        private final Reels reels;
        private final int[] stepX = new int[DATES];
        private final int[] stepY = new int[DATES];
        private int bright = 900;
        private int high = 2;

        Sky(Reels rows) {
            reels = rows;
        }

        int bright() {
            return bright;
        }

        int high() {
            return high;
        }

        void setClouds(int toBright, int toHigh) {
            bright = toBright;
            high = toHigh;
        }

        void setSun(int date, int x, int y) {
            stepX[date] = x;
            stepY[date] = y;
        }

        int stateAt(int date, int c) {
            for (int band = 0; band < BANDS; band++) {
                if (reels.reading(date, band, c) == NONE) {
                    return MISSING;
                }
            }
            if (reels.reading(date, 0, c) > bright) {
                return CLOUD;
            }
            return isShadowed(date, c) ? SHADOWED : CLEAR;
        }

        private boolean isShadowed(int date, int c) {
            if (stepX[date] == 0 && stepY[date] == 0) {
                return false;
            }
            int x = c % SIDE;
            int y = c / SIDE;
            for (int times = 0; times < high; times++) {
                x -= stepX[date];
                y -= stepY[date];
                if (!within(x, 0, SIDE - 1) || !within(y, 0, SIDE - 1)) {
                    return false;
                }
                // a missing reading is NONE, which is below every BRIGHT
                if (reels.reading(date, 0, SIDE * y + x) > bright) {
                    return true;
                }
            }
            return false;
        }

        /** Feature f of a cell that is CLEAR. */
        int featureAt(int date, int c, int f) {
            if (f < GREEN) {
                return reels.reading(date, f, c);
            }
            int less = reels.reading(date, 1, c);
            int more = reels.reading(date, 2, c);
            return more + less <= 0 ? 0 : Math.floorDiv(1000 * (more - less), more + less);
        }
    }

    /** The samples, and of those that teach now their classes and features. */
    private static final class Samples {
        private final int[] dates = new int[MOST_SAMPLES];
        private final int[] cells = new int[MOST_SAMPLES];
        private final int[] told = new int[MOST_SAMPLES];
        private int number = 0;
        private final int[] classes = new int[MOST_SAMPLES];
        private final int[] features = new int[FEATURES * MOST_SAMPLES];
        private int teachers = 0;

        int number() {
            return number;
        }

        int teachers() {
            return teachers;
        }

        void add(int date, int c, int k) {
            if (number < MOST_SAMPLES) {
                dates[number] = date;
                cells[number] = c;
                told[number] = k;
                number++;
            }
        }

        void clear() {
            number = 0;
        }

        void gather(Sky sky) {
            teachers = 0;
            for (int s = 0; s < number; s++) {
                if (sky.stateAt(dates[s], cells[s]) == Sky.CLEAR) {
                    classes[teachers] = told[s];
                    for (int f = 0; f < FEATURES; f++) {
                        features[MOST_SAMPLES * f + teachers] = sky.featureAt(dates[s], cells[s], f);
                    }
                    teachers++;
                }
            }
        }

        /** The class of a teacher; teachers stand in the order of their samples' numbers. */
        int classOf(int teacher) {
            return classes[teacher];
        }

        int featureOf(int teacher, int f) {
            return features[MOST_SAMPLES * f + teacher];
        }

        int nearestClass(Sky sky, int date, int c) {
            int first = sky.featureAt(date, c, 0);
            int second = sky.featureAt(date, c, 1);
            int third = sky.featureAt(date, c, 2);
            int least = BANDS * TOP_READING + 1;
            int nearest = NONE;
            for (int s = 0; s < teachers; s++) {
                int far = Math.abs(features[s] - first) + Math.abs(features[MOST_SAMPLES + s] - second)
                        + Math.abs(features[2 * MOST_SAMPLES + s] - third);
                if (far < least) {
                    least = far;
                    nearest = classes[s];
                }
            }
            return nearest;
        }
    }

    /**
     * The tree. Each node has a run of the teachers in their present order; parting a node sorts its
     * run, so that its sides have the two halves of it.
     */
    private static final class Tree {
        private static final int LEAF = 4, ABSENT = -1;
        private static final int[] LEVELS = {0, 1, 1, 2, 2, 2, 2, 3, 3, 3, 3, 3, 3, 3, 3};

        private final int[] splits = new int[NODES];
        private final int[] numbers = new int[NODES];
        private final int[] starts = new int[NODES];
        private final int[] ends = new int[NODES];
        private final int[] order = new int[MOST_SAMPLES];
        private final int[] first = new int[CLASSES];
        private final int[] second = new int[CLASSES];
        private int bestFeature = LEAF;
        private int bestNumber = 0;
        // the worth of the best split, as a fraction
        private long bestTop = 0;
        private long bestBottom = 1;

        void growFrom(Samples samples, int depth) {
            Arrays.fill(splits, ABSENT);
            for (int s = 0; s < samples.teachers(); s++) {
                order[s] = s;
            }
            plant(0, 0, samples.teachers());
            for (int n = 0; n < NODES; n++) {
                if (splits[n] != ABSENT) {
                    settle(samples, n, depth > LEVELS[n]);
                }
            }
        }

        private void plant(int n, int start, int end) {
            splits[n] = LEAF;
            starts[n] = start;
            ends[n] = end;
        }

        private void settle(Samples samples, int n, boolean mayPart) {
            countClasses(samples, starts[n], ends[n]);
            int most = 0;
            for (int k = 1; k < CLASSES; k++) {
                if (second[k] > second[most]) {
                    most = k;
                }
            }
            numbers[n] = most;
            boolean mixed = second[most] < ends[n] - starts[n];
            if (mayPart && mixed && 2 * n + 2 < NODES) {
                seekSplit(samples, starts[n], ends[n]);
                part(samples, n);
            }
        }

        private void countClasses(Samples samples, int start, int end) {
            Arrays.fill(first, 0);
            Arrays.fill(second, 0);
            for (int i = start; i < end; i++) {
                second[samples.classOf(order[i])]++;
            }
        }

        private void seekSplit(Samples samples, int start, int end) {
            bestFeature = LEAF;
            bestTop = 0;
            bestBottom = 1;
            for (int f = 0; f < FEATURES; f++) {
                sort(samples, f, start, end);
                countClasses(samples, start, end);
                sweep(samples, f, start, end);
            }
        }

        private void sort(Samples samples, int f, int start, int end) {
            for (int i = start + 1; i < end; i++) {
                int moved = order[i];
                int value = samples.featureOf(moved, f);
                int gap = i;
                while (gap > start && samples.featureOf(order[gap - 1], f) > value) {
                    order[gap] = order[gap - 1];
                    gap--;
                }
                order[gap] = moved;
            }
        }

        /** Takes the sorted run's teachers over to the first side one by one, keeping the sums of squares. */
        private void sweep(Samples samples, int f, int start, int end) {
            long firstSquares = 0;
            long secondSquares = 0;
            for (int k = 0; k < CLASSES; k++) {
                secondSquares += second[k] * second[k];
            }
            for (int i = start; i + 1 < end; i++) {
                int k = samples.classOf(order[i]);
                firstSquares += 2 * first[k] + 1;
                secondSquares -= 2 * second[k] - 1;
                first[k]++;
                second[k]--;
                int number = samples.featureOf(order[i], f);
                if (number < samples.featureOf(order[i + 1], f)) {
                    long firsts = i + 1 - start;
                    long seconds = end - i - 1;
                    long top = firstSquares * seconds + secondSquares * firsts;
                    keepBetter(f, number, top, firsts * seconds);
                }
            }
        }

        private void keepBetter(int f, int number, long top, long bottom) {
            // like worths leave the earlier split, which has the lesser f, then the lesser t
            if (top * bestBottom > bestTop * bottom) {
                bestFeature = f;
                bestNumber = number;
                bestTop = top;
                bestBottom = bottom;
            }
        }

        private void part(Samples samples, int n) {
            if (bestFeature == LEAF) {
                return;
            }
            sort(samples, bestFeature, starts[n], ends[n]);
            int middle = starts[n];
            while (middle < ends[n] && samples.featureOf(order[middle], bestFeature) <= bestNumber) {
                middle++;
            }
            splits[n] = bestFeature;
            numbers[n] = bestNumber;
            plant(2 * n + 1, starts[n], middle);
            plant(2 * n + 2, middle, ends[n]);
        }

        int tell(int n, int what) {
            if (splits[n] == ABSENT) {
                return BAD;
            }
            if (what == 2) {
                return ends[n] - starts[n];
            }
            return what == 0 ? splits[n] : numbers[n];
        }

        int classAt(Sky sky, int date, int c) {
            int n = 0;
            for (int level = 0; level < MOST_DEPTH && splits[n] != LEAF; level++) {
                n = 2 * n + (sky.featureAt(date, c, splits[n]) <= numbers[n] ? 1 : 2);
            }
            return numbers[n];
        }
    }

    /**
     * The class of each cell on each date. Tree and classes are kept until something that they rest
     * on changes, since a smoothing or the paths ask for hundreds of them at once.
     */
    private static final class Kinds {
        static final int BY_TREE = 0, BY_NEAREST = 1;
        private static final int UNKNOWN = -2;

        private final Sky sky;
        private final Samples samples;
        private final Tree grown = new Tree();
        private final int[] known = new int[DATES * CELLS];
        private boolean outdated = true;
        private int depth = 2;
        private int mode = BY_TREE;

        Kinds(Sky above, Samples seen) {
            sky = above;
            samples = seen;
        }

        int depth() {
            return depth;
        }

        int mode() {
            return mode;
        }

        void setManner(int toDepth, int toMode) {
            depth = toDepth;
            mode = toMode;
            outdated = true;
        }

        void outdate() {
            outdated = true;
        }

        /** Every call that asks for classes, the tree or the teachers comes here first. */
        void renew() {
            if (outdated) {
                samples.gather(sky);
                grown.growFrom(samples, depth);
                Arrays.fill(known, UNKNOWN);
                outdated = false;
            }
        }

        Tree grown() {
            return grown;
        }

        int classAt(int date, int c) {
            int place = CELLS * date + c;
            if (known[place] == UNKNOWN) {
                if (sky.stateAt(date, c) != Sky.CLEAR) {
                    known[place] = NONE;
                } else if (mode == BY_TREE) {
                    known[place] = grown.classAt(sky, date, c);
                } else {
                    known[place] = samples.nearestClass(sky, date, c);
                }
            }
            return known[place];
        }

        int tally(int date, int k) {
            int cells = 0;
            for (int c = 0; c < CELLS; c++) {
                cells += classAt(date, c) == k ? 1 : 0;
            }
            return cells;
        }
    }

    /**
     * Smoothing cell by cell: a front is the marks of the latest cell in each column, and of all ways
     * to mark the cells so far that end in one front, only the best can lead to the best board.
     */
    private static final class Smoother {
        private static final int FRONTS = 256;
        // above any number of 1s: a cost times this and the 1s orders ways as the document does
        private static final int UNIT = 128;
        // above any board's cost, and far enough below the greatest int to be added to
        private static final int FAR = 1 << 29;

        private final int[] costs = new int[FRONTS];
        private final long[] ways = new long[FRONTS];
        private int own = 3;
        private int edge = 2;
        private long marks = 0;

        int own() {
            return own;
        }

        int edge() {
            return edge;
        }

        void setWeights(int toOwn, int toEdge) {
            own = toOwn;
            edge = toEdge;
        }

        int markOf(int c) {
            return (int) ((marks >>> c) & 1);
        }

        int settle(Kinds kinds, int date, int k) {
            if (own * kinds.tally(date, k) == 0) {
                // no marks at all cost nothing: no other way can be better
                marks = 0;
                return 0;
            }
            Arrays.fill(costs, FAR);
            costs[0] = 0;
            ways[0] = 0;
            for (int c = 0; c < CELLS; c++) {
                int told = kinds.classAt(date, c);
                int zero = told == k ? own : 0;
                int one = told == k || told == NONE ? 0 : own;
                addCell(c, UNIT * zero, UNIT * one + 1);
            }
            return takeBest();
        }

        private void addCell(int c, int zero, int one) {
            int bit = 1 << (c % SIDE);
            // no bit for the first column, whose cells have none to the left
            int left = bit >> 1;
            int beside = left == 0 ? 0 : UNIT * edge;
            int above = c < SIDE ? 0 : UNIT * edge;
            for (int front = 0; front < FRONTS; front++) {
                if ((front & bit) == 0) {
                    boolean leftIsOne = (front & left) != 0;
                    addMarks(front, front | bit, c, above,
                            leftIsOne ? zero + beside : zero, leftIsOne ? one : one + beside);
                }
            }
        }

        /** The two fronts that differ in the cell's column alone: above it was 0 or 1, it is 0 or 1. */
        private void addMarks(int low, int high, int c, int above, int zero, int one) {
            int wasZero = costs[low];
            int wasOne = costs[high];
            long zeroWay = ways[low];
            long oneWay = ways[high];
            boolean fromZero = wasZero <= wasOne + above;
            costs[low] = zero + (fromZero ? wasZero : wasOne + above);
            ways[low] = fromZero ? zeroWay : oneWay;
            fromZero = wasZero + above <= wasOne;
            costs[high] = one + (fromZero ? wasZero + above : wasOne);
            ways[high] = (fromZero ? zeroWay : oneWay) | (1L << c);
        }

        private int takeBest() {
            int best = 0;
            for (int front = 1; front < FRONTS; front++) {
                if (costs[front] < costs[best]) {
                    best = front;
                }
            }
            marks = ways[best];
            return costs[best] / UNIT;
        }
    }

    /** The moves, and the path of the cell that was asked for last. */
    private static final class Paths {
        private final boolean[] barred = new boolean[CLASSES * CLASSES];
        // the least cost of a date and all later ones, if it has a class
        private final int[] costs = new int[DATES * CLASSES];
        private final int[] way = new int[DATES];

        void setMove(int from, int to, boolean is) {
            barred[CLASSES * from + to] = !is;
        }

        void seek(Kinds kinds, int c) {
            for (int date = DATES - 1; date >= 0; date--) {
                int told = kinds.classAt(date, c);
                for (int k = 0; k < CLASSES; k++) {
                    int miss = told == NONE || told == k ? 0 : 1;
                    costs[CLASSES * date + k] = miss + costAfter(date, k);
                }
            }
            int ahead = NONE;
            for (int date = 0; date < DATES; date++) {
                way[date] = bestClass(date, ahead);
                ahead = way[date];
            }
        }

        private int costAfter(int date, int k) {
            return date + 1 < DATES ? costs[CLASSES * (date + 1) + bestClass(date + 1, k)] : 0;
        }

        /** The class of a date with which it goes on best behind a class (NONE: at the start). */
        private int bestClass(int date, int ahead) {
            int best = 0;
            int least = DATES + 1;
            for (int k = 0; k < CLASSES; k++) {
                boolean open = ahead == NONE || !barred[CLASSES * ahead + k];
                if (open && costs[CLASSES * date + k] < least) {
                    least = costs[CLASSES * date + k];
                    best = k;
                }
            }
            return best;
        }

        int cost() {
            return costs[way[0]];
        }

        int classOn(int date) {
            return way[date];
        }

        int moves(int from, int to) {
            int moves = 0;
            for (int date = 1; date < DATES; date++) {
                moves += way[date - 1] == from && way[date] == to ? 1 : 0;
            }
            return moves;
        }
    }

    /** The table of proofs and the areas corrected by it. */
    private static final class Proofs {
        private final int[] table = new int[CLASSES * CLASSES];

        int add(int i, int j, int n) {
            int place = CLASSES * i + j;
            table[place] = Math.min(TOP_PROOF, table[place] + n);
            return table[place];
        }

        private int sumOf(int i) {
            int sum = 0;
            for (int j = 0; j < CLASSES; j++) {
                sum += table[CLASSES * i + j];
            }
            return sum;
        }

        long areaOf(Kinds kinds, int date, int j) {
            // at most 64 cells, 1000 in a place and 4000 in each of three other rows: a long holds it
            long top = 0;
            long bottom = 1;
            for (int i = 0; i < CLASSES; i++) {
                long cells = kinds.tally(date, i);
                if (cells > 0) {
                    long row = sumOf(i);
                    if (row <= 0) {
                        return NOT;
                    }
                    top = top * row + cells * table[CLASSES * i + j] * bottom;
                    bottom *= row;
                }
            }
            return 1000 * top / bottom;
        }
    }
}

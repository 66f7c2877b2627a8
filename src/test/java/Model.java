import java.math.BigInteger;
import java.util.ArrayDeque;
import java.util.ArrayList;
import java.util.Arrays;
import java.util.List;

/**
 * The document once more, slowly and by other means, for ModelTest: nothing is kept between calls, the
 * tree is one of objects, smoothing is a greatest flow, and all 4096 paths of a cell are tried.
 */
public final class Model {
    private static final int BAD = -2000, NOT = -2001, FULL = -2002, NONE = -1, LEAST = Integer.MIN_VALUE;

    private record Sample(int date, int c, int k) {
    }

    private record Lesson(int[] features, int k) {
    }

    private record Node(int feature, int number, int size, Node first, Node second) {
    }

    private final int[][] rows = new int[18][];
    private final int[] forms = new int[18];
    private final int[] sunX = new int[6];
    private final int[] sunY = new int[6];
    private final List<Sample> samples = new ArrayList<>();
    private final boolean[][] allowed = new boolean[4][4];
    private final int[][] proofs = new int[4][4];
    private int[] marks = new int[64];
    private int bright = 900;
    private int high = 2;
    private int depth = 2;
    private int mode = 0;
    private int own = 3;
    private int edge = 2;
    private int finding = 0;

    public Model() {
        for (boolean[] row : allowed) {
            Arrays.fill(row, true);
        }
    }

    private static boolean out(int v, int least, int most) {
        return v < least || v > most;
    }

    private int find(int number) {
        finding = number;
        return -10 - number;
    }

    private static int cut(int form, int v) {
        int bits = form == 0 ? 24 : form == 1 ? 16 : 0;
        return v << bits >> bits;
    }

    public int reel(int r, int form, int n) {
        if (out(r, 0, 17) || out(form, 0, 2) || n > 64) {
            return BAD;
        }
        if (n < 0) {
            return find(5);
        }
        rows[r] = new int[n];
        forms[r] = form;
        return n;
    }

    public int lose(int r) {
        if (out(r, 0, 17)) {
            return BAD;
        }
        if (rows[r] == null) {
            return find(1);
        }
        int had = rows[r].length;
        rows[r] = null;
        return had;
    }

    private int look(int r, int form, int i) {
        if (rows[r] == null) {
            return find(1);
        }
        if (forms[r] != form) {
            return find(3);
        }
        return out(i, 0, rows[r].length - 1) ? find(2) : 0;
    }

    public int put(int r, int form, int i, int v) {
        if (out(r, 0, 17) || out(form, 0, 2)) {
            return BAD;
        }
        int found = look(r, form, i);
        if (found != 0) {
            return found;
        }
        rows[r][i] = cut(form, v);
        return 1;
    }

    public int get(int r, int form, int i) {
        if (out(r, 0, 17) || out(form, 0, 2)) {
            return LEAST;
        }
        return look(r, form, i) != 0 ? LEAST : rows[r][i];
    }

    public int copy(int r, int i, int q, int j, int n) {
        if (out(r, 0, 17) || out(q, 0, 17)) {
            return BAD;
        }
        if (rows[r] == null || rows[q] == null) {
            return find(1);
        }
        if (forms[r] != forms[q]) {
            return find(4);
        }
        if (i < 0 || j < 0 || n < 0 || (long) i + n > rows[r].length || (long) j + n > rows[q].length) {
            return find(2);
        }
        int[] as = rows[r].clone();
        for (int m = 0; m < n; m++) {
            rows[q][j + m] = as[i + m];
        }
        return 1;
    }

    public int paint(int r, int from, int to, int v) {
        if (out(r, 0, 17) || from < 0 || from > to || to > 63) {
            return BAD;
        }
        if (rows[r] == null) {
            return find(1);
        }
        if (to >= rows[r].length) {
            return find(2);
        }
        for (int i = from; i <= to; i++) {
            rows[r][i] = cut(forms[r], v);
        }
        return to - from + 1;
    }

    public int clouds(int toBright, int toHigh) {
        if (out(toBright, 0, 1000) || out(toHigh, 0, 4)) {
            return BAD;
        }
        bright = toBright;
        high = toHigh;
        return 1;
    }

    public int sun(int date, int x, int y) {
        if (out(date, 0, 5) || out(x, -2, 2) || out(y, -2, 2)) {
            return BAD;
        }
        sunX[date] = x;
        sunY[date] = y;
        return 1;
    }

    private int reading(int date, int band, int c) {
        int[] row = rows[3 * date + band];
        return row == null || c >= row.length || out(row[c], 0, 1000) ? NONE : row[c];
    }

    private boolean shadowed(int date, int c) {
        // from the clouds' side: every cloud throws its shadow on up to HIGH cells
        for (int cloud = 0; cloud < 64; cloud++) {
            for (int m = 1; m <= high && reading(date, 0, cloud) > bright; m++) {
                int x = cloud % 8 + m * sunX[date];
                int y = cloud / 8 + m * sunY[date];
                if (x == c % 8 && y == c / 8 && cloud != c) {
                    return true;
                }
            }
        }
        return false;
    }

    public int sky(int date, int c) {
        if (out(date, 0, 5) || out(c, 0, 63)) {
            return BAD;
        }
        if (reading(date, 0, c) == NONE || reading(date, 1, c) == NONE || reading(date, 2, c) == NONE) {
            return 0;
        }
        return reading(date, 0, c) > bright ? 1 : shadowed(date, c) ? 2 : 3;
    }

    private int[] features(int date, int c) {
        int one = reading(date, 1, c);
        int two = reading(date, 2, c);
        int green = one + two == 0 ? 0 : (int) Math.floor(1000.0 * (two - one) / (two + one));
        return new int[] {reading(date, 0, c), one, two, green};
    }

    public int feature(int date, int c, int f) {
        if (out(date, 0, 5) || out(c, 0, 63) || out(f, 0, 3)) {
            return BAD;
        }
        return sky(date, c) == 3 ? features(date, c)[f] : NOT;
    }

    public int sample(int date, int c, int k) {
        if (out(date, 0, 5) || out(c, 0, 63) || out(k, 0, 3)) {
            return BAD;
        }
        if (samples.size() == 40) {
            return FULL;
        }
        samples.add(new Sample(date, c, k));
        return samples.size();
    }

    public int forget() {
        int had = samples.size();
        samples.clear();
        return had;
    }

    private List<Lesson> lessons() {
        List<Lesson> lessons = new ArrayList<>();
        for (Sample s : samples) {
            if (sky(s.date, s.c) == 3) {
                lessons.add(new Lesson(features(s.date, s.c), s.k));
            }
        }
        return lessons;
    }

    public int teaching() {
        return lessons().size();
    }

    public int grow(int toDepth, int toMode) {
        if (out(toDepth, 0, 3) || out(toMode, 0, 1)) {
            return BAD;
        }
        depth = toDepth;
        mode = toMode;
        return 1;
    }

    private static long[] counts(List<Lesson> lessons) {
        long[] counts = new long[4];
        for (Lesson l : lessons) {
            counts[l.k]++;
        }
        return counts;
    }

    private static long squares(List<Lesson> lessons) {
        long sum = 0;
        for (long n : counts(lessons)) {
            sum += n * n;
        }
        return sum;
    }

    private static List<Lesson> side(List<Lesson> lessons, int f, int t, boolean first) {
        List<Lesson> side = new ArrayList<>();
        for (Lesson l : lessons) {
            if (l.features[f] <= t == first) {
                side.add(l);
            }
        }
        return side;
    }

    private static Node leaf(List<Lesson> lessons) {
        long[] counts = counts(lessons);
        int most = 0;
        for (int k = 3; k >= 0; k--) {
            if (counts[k] >= counts[most]) {
                most = k;
            }
        }
        return new Node(4, most, lessons.size(), null, null);
    }

    private static Node grown(List<Lesson> lessons, int depth) {
        long size = lessons.size();
        if (depth == 0 || squares(lessons) == size * size) {
            return leaf(lessons);
        }
        int bestF = -1;
        int bestT = 0;
        long[] best = {0, 1};
        for (int f = 0; f < 4; f++) {
            for (Lesson l : lessons) {
                int t = l.features[f];
                List<Lesson> first = side(lessons, f, t, true);
                List<Lesson> second = side(lessons, f, t, false);
                if (second.isEmpty()) {
                    continue;
                }
                long[] worth = {squares(first) * second.size() + squares(second) * first.size(),
                    (long) first.size() * second.size()};
                int more = Long.compare(worth[0] * best[1], best[0] * worth[1]);
                if (more > 0 || more == 0 && f == bestF && t < bestT) {
                    bestF = f;
                    bestT = t;
                    best = worth;
                }
            }
        }
        return bestF < 0 ? leaf(lessons) : new Node(bestF, bestT, lessons.size(),
                grown(side(lessons, bestF, bestT, true), depth - 1),
                grown(side(lessons, bestF, bestT, false), depth - 1));
    }

    private static Node node(Node root, int n) {
        if (n == 0 || root == null) {
            return root;
        }
        Node above = node(root, (n - 1) / 2);
        return above == null ? null : n % 2 == 1 ? above.first : above.second;
    }

    public int tree(int n, int what) {
        if (out(n, 0, 14) || out(what, 0, 2)) {
            return BAD;
        }
        Node node = node(grown(lessons(), depth), n);
        if (node == null) {
            return BAD;
        }
        return what == 0 ? node.feature : what == 1 ? node.number : node.size;
    }

    private int classBy(List<Lesson> lessons, Node root, int date, int c) {
        if (sky(date, c) != 3) {
            return NONE;
        }
        int[] features = features(date, c);
        if (mode == 0) {
            Node node = root;
            while (node.feature != 4) {
                node = features[node.feature] <= node.number ? node.first : node.second;
            }
            return node.number;
        }
        int nearest = NONE;
        int least = Integer.MAX_VALUE;
        for (Lesson l : lessons) {
            int far = 0;
            for (int b = 0; b < 3; b++) {
                far += Math.abs(l.features[b] - features[b]);
            }
            if (far < least) {
                least = far;
                nearest = l.k;
            }
        }
        return nearest;
    }

    private int[] classes(int date) {
        List<Lesson> lessons = lessons();
        Node root = grown(lessons, depth);
        int[] classes = new int[64];
        for (int c = 0; c < 64; c++) {
            classes[c] = classBy(lessons, root, date, c);
        }
        return classes;
    }

    public int kind(int date, int c) {
        return out(date, 0, 5) || out(c, 0, 63) ? BAD : classes(date)[c];
    }

    public int many(int date, int k) {
        if (out(date, 0, 5) || out(k, -1, 3)) {
            return BAD;
        }
        return (int) Arrays.stream(classes(date)).filter(told -> told == k).count();
    }

    public int weigh(int toOwn, int toEdge) {
        if (out(toOwn, 0, 100) || out(toEdge, 0, 100)) {
            return BAD;
        }
        own = toOwn;
        edge = toEdge;
        return 1;
    }

    /** Cells 0 to 63, the source 64 (marks of 1 stay on its side), the sink 65. */
    private int[][] network(int[] classes, int k) {
        int[][] room = new int[66][66];
        for (int c = 0; c < 64; c++) {
            if (classes[c] == k) {
                room[64][c] = own;
            } else if (classes[c] != NONE) {
                room[c][65] = own;
            }
            if (c % 8 < 7) {
                room[c][c + 1] = edge;
                room[c + 1][c] = edge;
            }
            if (c < 56) {
                room[c][c + 8] = edge;
                room[c + 8][c] = edge;
            }
        }
        return room;
    }

    private static int[] reached(int[][] room) {
        int[] from = new int[66];
        Arrays.fill(from, -1);
        from[64] = 64;
        ArrayDeque<Integer> open = new ArrayDeque<>(List.of(64));
        while (!open.isEmpty()) {
            int a = open.remove();
            for (int b = 0; b < 66; b++) {
                if (from[b] < 0 && room[a][b] > 0) {
                    from[b] = a;
                    open.add(b);
                }
            }
        }
        return from;
    }

    public int smooth(int date, int k) {
        if (out(date, 0, 5) || out(k, 0, 3)) {
            return BAD;
        }
        int[][] room = network(classes(date), k);
        int flow = 0;
        int[] from = reached(room);
        while (from[65] >= 0) {
            int more = Integer.MAX_VALUE;
            for (int b = 65; b != 64; b = from[b]) {
                more = Math.min(more, room[from[b]][b]);
            }
            for (int b = 65; b != 64; b = from[b]) {
                room[from[b]][b] -= more;
                room[b][from[b]] += more;
            }
            flow += more;
            from = reached(room);
        }
        // what the source still reaches is the least of all least cuts
        for (int c = 0; c < 64; c++) {
            marks[c] = from[c] >= 0 ? 1 : 0;
        }
        return flow;
    }

    public int mark(int c) {
        return out(c, 0, 63) ? BAD : marks[c];
    }

    public int allow(int from, int to, boolean is) {
        if (out(from, 0, 3) || out(to, 0, 3) || from == to) {
            return BAD;
        }
        allowed[from][to] = is;
        return 1;
    }

    /** Classes of dates 0 to 5, then the cost. Ways are tried in the order of the document's preference. */
    private int[] best(int[][] told, int c) {
        int[] best = null;
        for (int n = 0; n < 4096; n++) {
            int[] way = new int[7];
            boolean fits = true;
            for (int date = 0; date < 6; date++) {
                way[date] = n >> 2 * (5 - date) & 3;
                fits &= date == 0 || allowed[way[date - 1]][way[date]];
                way[6] += told[date][c] != NONE && told[date][c] != way[date] ? 1 : 0;
            }
            if (fits && (best == null || way[6] < best[6])) {
                best = way;
            }
        }
        return best;
    }

    private int[][] told() {
        int[][] told = new int[6][];
        for (int date = 0; date < 6; date++) {
            told[date] = classes(date);
        }
        return told;
    }

    public int path(int c) {
        return out(c, 0, 63) ? BAD : best(told(), c)[6];
    }

    public int on(int c, int date) {
        return out(c, 0, 63) || out(date, 0, 5) ? BAD : best(told(), c)[date];
    }

    public int changed(int i, int j) {
        if (out(i, 0, 3) || out(j, 0, 3) || i == j) {
            return BAD;
        }
        int[][] told = told();
        int moves = 0;
        for (int c = 0; c < 64; c++) {
            int[] way = best(told, c);
            for (int date = 1; date < 6; date++) {
                moves += way[date - 1] == i && way[date] == j ? 1 : 0;
            }
        }
        return moves;
    }

    public int prove(int i, int j, int n) {
        if (out(i, 0, 3) || out(j, 0, 3) || out(n, 1, 1000)) {
            return BAD;
        }
        proofs[i][j] = Math.min(1000, proofs[i][j] + n);
        return proofs[i][j];
    }

    public long area(int date, int j) {
        if (out(date, 0, 5) || out(j, 0, 3)) {
            return BAD;
        }
        int[] cells = new int[4];
        for (int k : classes(date)) {
            if (k != NONE) {
                cells[k]++;
            }
        }
        BigInteger top = BigInteger.ZERO;
        BigInteger bottom = BigInteger.ONE;
        for (int i = 0; i < 4; i++) {
            int row = Arrays.stream(proofs[i]).sum();
            if (cells[i] > 0 && row == 0) {
                return NOT;
            }
            if (cells[i] > 0) {
                BigInteger sum = BigInteger.valueOf(row);
                top = top.multiply(sum).add(bottom.multiply(BigInteger.valueOf((long) cells[i] * proofs[i][j])));
                bottom = bottom.multiply(sum);
            }
        }
        return top.multiply(BigInteger.valueOf(1000)).divide(bottom).longValueExact();
    }

    private int held() {
        int held = 0;
        for (int[] row : rows) {
            held += row == null ? 0 : 1;
        }
        return held;
    }

    public int count(int what) {
        int[] counts = {samples.size(), depth, mode, own, edge, held(), finding, bright, high};
        return out(what, 0, 8) ? BAD : counts[what];
    }

    public long digest() {
        long h = 17;
        for (int what : new int[] {0, 1, 2, 3, 4, 5, 7, 8}) {
            h = 31 * h + count(what);
        }
        for (int date = 0; date < 6; date++) {
            for (int c = 0; c < 64; c++) {
                h = 31 * h + sky(date, c);
            }
            int[] classes = classes(date);
            for (int c = 0; c < 64; c += 9) {
                h = 31 * h + classes[c];
            }
        }
        for (int c = 0; c < 64; c++) {
            h = 31 * h + marks[c];
        }
        return h;
    }
}

import java.util.ArrayList;
import java.util.List;
import java.util.function.ToLongFunction;

/**
 * Refusals as a whole: each is made on an object of its own, of which then everything is asked that can be
 * asked; the answers are those of an object that was not asked the refused call.
 */
final class EdgesRefusalsTest {
    private static final Due due = new Due("EdgesRefusalsTest");
    private static final int BAD = -2000, NOT = -2001, FULL = -2002;
    private static final int NULL = -11, INDEX = -12, CAST = -13, STORE = -14, SIZE = -15;
    private static final int LEAST = Integer.MIN_VALUE, MOST = Integer.MAX_VALUE;
    private static final int[] FORMS = {2, 2, 2, 1, 1, 1, 0, 0, 0};

    private EdgesRefusalsTest() {
    }

    public static void main(String[] args) {
        due.part("Refusals: BAD, NOT, FULL. They change nothing else");
        badReels();
        badSky();
        badClasses();
        badBoards();
        badPathsAndAreas();
        notAndFull();
        due.part("FINDINGS: they change nothing but count() 6");
        findings();
        due.part("Where the answer is a long, it is that, too");
        longs();
        due.part("what is only asked changes nothing");
        asking();
        due.part("An object is used for at most 512 calls");
        lastCall();
        due.part("an object of its own");
        twoObjects();
        due.end();
    }

    /** Reels 0 to 8 of all forms (8 is short), the others lost; 40 samples; marks, moves, proofs and all weights. */
    private static FieldTiles full() {
        FieldTiles x = new FieldTiles();
        for (int r = 0; r < 9; r++) {
            x.reel(r, FORMS[r], r == 8 ? 40 : 64);
            x.paint(r, 0, 39, 20 + r);
            x.paint(r, 10, 20 + r, 50 - 3 * r);
        }
        x.put(0, 2, 33, 950);
        x.sun(0, 1, 1);
        x.sun(2, -1, 0);
        x.clouds(800, 3);
        for (int s = 0; s < 40; s++) {
            x.sample(s % 3, s, (s / 3 + s) % 4);
        }
        x.grow(3, 0);
        x.weigh(5, 1);
        x.smooth(1, 1);
        x.allow(1, 2, false);
        x.allow(3, 0, false);
        x.prove(0, 0, 7);
        x.prove(1, 2, 1000);
        x.prove(3, 1, 9);
        x.lose(17);
        return x;
    }

    /** All that an object of full() tells, but count(6). */
    private static List<Long> told(FieldTiles x) {
        List<Long> told = new ArrayList<>();
        told.add(x.digest());
        for (int n = 0; n < 15; n++) {
            told.add((long) x.tree(n, 0));
            told.add((long) x.tree(n, 1));
        }
        for (int r = 0; r < 9; r++) {
            for (int i = 0; i < 64; i += 5) {
                told.add((long) x.get(r, FORMS[r], i));
            }
        }
        for (int k = 0; k < 4; k++) {
            for (int date = 0; date < 3; date++) {
                told.add((long) x.many(date, k));
                told.add(x.area(date, k));
            }
            for (int j = 0; j < 4; j++) {
                told.add((long) x.changed(k, j));
                told.add((long) x.prove(k, j, 1));
            }
        }
        for (int c = 0; c < 64; c++) {
            told.add((long) x.mark(c));
        }
        told.add((long) x.smooth(1, 0));
        told.add((long) x.teaching());
        told.add((long) x.forget());
        for (int r = 0; r < 18; r++) {
            told.add((long) x.lose(r));
        }
        return told;
    }

    /** A refused call, its due answer, and the number of the finding that is the latest behind it. */
    private static void refused(String name, ToLongFunction<FieldTiles> call, long want, int finding) {
        FieldTiles x = full();
        due.is(name, call.applyAsLong(x), want);
        due.is("count(6) behind " + name, x.count(6), finding);
        due.holds("all is as ahead of " + name, told(x).equals(told(full())));
    }

    private static void bad(String name, ToLongFunction<FieldTiles> call) {
        refused(name, call, BAD, 1);
    }

    private static void badReels() {
        bad("reel: the reel", x -> x.reel(18, 0, 5));
        bad("reel: the form", x -> x.reel(0, 3, 5));
        bad("reel: above 64", x -> x.reel(0, 0, 65));
        bad("lose", x -> x.lose(-1));
        bad("put: the reel", x -> x.put(18, 2, 0, 9));
        bad("put: the form", x -> x.put(0, -1, 0, 9));
        refused("get: the reel", x -> x.get(-1, 0, 0), LEAST, 1);
        refused("get: the form", x -> x.get(0, 3, 0), LEAST, 1);
        bad("copy: from", x -> x.copy(-1, 0, 0, 0, 5));
        bad("copy: to", x -> x.copy(0, 0, 18, 0, 5));
        bad("paint: the reel", x -> x.paint(18, 0, 5, 9));
        bad("paint: from below 0", x -> x.paint(0, -1, 5, 9));
        bad("paint: from above to", x -> x.paint(0, 6, 5, 9));
        bad("paint: to above 63", x -> x.paint(0, 5, 64, 9));
    }

    private static void badSky() {
        bad("clouds: BRIGHT", x -> x.clouds(1001, 0));
        bad("clouds: HIGH", x -> x.clouds(0, 5));
        bad("sun: the date", x -> x.sun(6, 0, 0));
        bad("sun: x", x -> x.sun(0, 3, 0));
        bad("sun: y", x -> x.sun(0, 0, -3));
        bad("sky", x -> x.sky(0, 64));
        bad("feature", x -> x.feature(0, 0, 4));
    }

    private static void badClasses() {
        bad("sample: the date", x -> x.sample(-1, 0, 0));
        bad("sample: the cell", x -> x.sample(0, 64, 0));
        bad("sample: the class", x -> x.sample(0, 0, 4));
        bad("grow: DEPTH", x -> x.grow(4, 1));
        bad("grow: the mode", x -> x.grow(0, 2));
        bad("tree: the node", x -> x.tree(15, 0));
        bad("tree: what", x -> x.tree(0, 3));
        bad("kind", x -> x.kind(6, 0));
        bad("many", x -> x.many(0, -2));
    }

    private static void badBoards() {
        bad("weigh: OWN", x -> x.weigh(101, 0));
        bad("weigh: EDGE", x -> x.weigh(0, -1));
        bad("smooth: the date", x -> x.smooth(6, 0));
        bad("smooth: the class", x -> x.smooth(0, 4));
        bad("smooth: NONE", x -> x.smooth(0, -1));
        bad("mark", x -> x.mark(64));
    }

    private static void badPathsAndAreas() {
        bad("allow: from", x -> x.allow(4, 0, false));
        bad("allow: to", x -> x.allow(0, -1, false));
        bad("allow: to itself", x -> x.allow(2, 2, false));
        bad("path", x -> x.path(-1));
        bad("on", x -> x.on(0, 6));
        bad("changed", x -> x.changed(1, 1));
        bad("prove: told", x -> x.prove(4, 0, 5));
        bad("prove: truly", x -> x.prove(0, 4, 5));
        bad("prove: 0", x -> x.prove(0, 0, 0));
        bad("prove: 1001", x -> x.prove(0, 0, 1001));
        bad("area", x -> x.area(0, 4));
        bad("count", x -> x.count(9));
    }

    private static void notAndFull() {
        refused("feature of a cloud", x -> x.feature(0, 33, 0), NOT, 1);
        refused("area with an empty row", x -> x.area(2, 0), NOT, 1);
        refused("one sample more than 40", x -> x.sample(0, 0, 0), FULL, 1);
    }

    private static void findings() {
        refused("reel of -1", x -> x.reel(0, 0, -1), SIZE, 5);
        refused("reel of -1 where it is lost", x -> x.reel(9, 0, -1), SIZE, 5);
        refused("lose of a lost one", x -> x.lose(9), NULL, 1);
        refused("put on a lost one", x -> x.put(9, 0, 0, 9), NULL, 1);
        refused("put in another form", x -> x.put(0, 0, 0, 9), CAST, 3);
        refused("put behind the end", x -> x.put(8, 0, 40, 9), INDEX, 2);
        refused("put ahead of the start", x -> x.put(8, 0, -1, 9), INDEX, 2);
        refused("get of a lost one", x -> x.get(9, 0, 0), LEAST, 1);
        refused("get in another form", x -> x.get(0, 1, 0), LEAST, 3);
        refused("get behind the end", x -> x.get(8, 0, 40), LEAST, 2);
        refused("copy from a lost one", x -> x.copy(9, 0, 0, 0, 5), NULL, 1);
        refused("copy to a lost one", x -> x.copy(0, 0, 9, 0, 5), NULL, 1);
        refused("copy between forms", x -> x.copy(0, 0, 3, 0, 5), STORE, 4);
        refused("copy of more than it has", x -> x.copy(8, 20, 7, 0, 21), INDEX, 2);
        refused("copy to where is no room", x -> x.copy(7, 0, 8, 20, 21), INDEX, 2);
        refused("copy of the most", x -> x.copy(0, 1, 1, 1, MOST), INDEX, 2);
        refused("paint of a lost one", x -> x.paint(9, 0, 5, 9), NULL, 1);
        refused("paint of more than it has", x -> x.paint(8, 0, 40, 9), INDEX, 2);
    }

    private static void longs() {
        FieldTiles x = full();
        due.is("area: BAD", x.area(6, 0), -2000L);
        due.is("area: BAD", x.area(0, 4), -2000L);
        due.is("area: NOT", x.area(2, 0), -2001L);
    }

    private static void asking() {
        FieldTiles x = full();
        for (int date = 0; date < 6; date++) {
            x.sky(date, 5);
            x.feature(date, 5, 3);
            x.kind(date, 5);
            x.many(date, -1);
            x.on(5, date);
        }
        x.get(0, 2, 0);
        x.teaching();
        x.tree(0, 0);
        x.mark(0);
        x.path(9);
        x.changed(0, 1);
        x.area(1, 1);
        x.count(0);
        x.digest();
        due.is("count(6)", x.count(6), 1);
        due.holds("all is as ahead of it", told(x).equals(told(full())));
    }

    private static void lastCall() {
        FieldTiles x = new FieldTiles();
        for (int n = 1; n <= 506; n++) {
            x.reel(n % 18, n % 3, 64);
        }
        // reels 0, 1 and 2 were wound at calls 504, 505 and 506, with forms 0, 1 and 2
        due.is("call 507", x.sample(0, 63, 3), 1);
        due.is("call 508", x.kind(0, 0), 3);
        due.is("call 509", x.smooth(0, 3), 0);
        due.is("call 510", x.mark(63), 1);
        due.is("call 511", x.put(2, 2, 0, -1), 1);
        due.is("call 512", x.many(0, 3), 63);
    }

    private static void twoObjects() {
        FieldTiles x = full();
        FieldTiles y = new FieldTiles();
        due.is("count(5) of a new one beside a full one", y.count(5), 0);
        due.is("count(0) of a new one", y.count(0), 0);
        due.is("prove of a new one", y.prove(0, 0, 1), 1);
        y.sample(0, 0, 0);
        y.reel(0, 0, 64);
        y.smooth(0, 0);
        y.clouds(0, 0);
        y.allow(0, 1, false);
        due.holds("the full one is as it was", told(x).equals(told(full())));
    }
}

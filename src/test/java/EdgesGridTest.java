import java.util.ArrayList;
import java.util.Arrays;
import java.util.List;

/**
 * Every call with every edge of each argument, all of them together, beside the Model: the number below the
 * least, the least, one within, the greatest, the number above it, and the least and the greatest int.
 */
final class EdgesGridTest {
    private static final Due due = new Due("EdgesGridTest");
    private static final int MOST_CALLS = 500;

    // a call and a letter for each argument (see edges())
    private static final String[] CALLED = {
        "reel rfn", "lose r", "put rfiv", "get rfi", "copy rirjm", "paint rabv", "clouds Bh", "sun dss", "sky dc",
        "feature dcF", "sample dck", "forget", "teaching", "grow Dt", "tree NW", "kind dc", "many dK", "weigh ww",
        "smooth dk", "mark c", "allow kko", "path c", "on cd", "changed kk", "prove kkp", "area dk", "count C",
        "digest"};

    private FieldTiles tiles;
    private Model model;
    private int calls;
    private final int scene;
    private String name;

    private EdgesGridTest(int scene) {
        this.scene = scene;
    }

    public static void main(String[] args) throws Exception {
        for (int scene = 0; scene < 3; scene++) {
            EdgesGridTest grid = new EdgesGridTest(scene);
            for (String called : CALLED) {
                String[] parts = called.split(" ");
                due.part(parts[0] + " in scene " + scene);
                grid.renew();
                grid.name = parts[0];
                grid.all(parts.length > 1 ? parts[1] : "", new ArrayList<>());
                grid.name = "digest";
                grid.ask(new Object[0]);
            }
        }
        due.end();
    }

    private static int[] edges(char letter) {
        switch (letter) {
            case 'r': return new int[] {-1, 0, 5, 9, 17, 18};
            case 'f': return new int[] {-1, 0, 1, 2, 3};
            case 'n': return new int[] {-1, 0, 63, 64, 65};
            case 'i': case 'j': return new int[] {-1, 0, 39, 40, 63, 64};
            case 'm': return new int[] {-1, 0, 1, 24, 25, 64, 65};
            case 'a': case 'b': return new int[] {-1, 0, 39, 40, 63, 64};
            case 'v': return new int[] {-1, 0, 128, 1000, 1001};
            case 'B': return new int[] {-1, 0, 900, 1000, 1001};
            case 'h': return new int[] {-1, 0, 4, 5};
            case 'd': return new int[] {-1, 0, 1, 5, 6};
            case 'c': return new int[] {-1, 0, 7, 8, 39, 40, 63, 64};
            case 's': return new int[] {-3, -2, 0, 2, 3};
            case 'F': return new int[] {-1, 0, 3, 4};
            case 'k': return new int[] {-1, 0, 1, 3, 4};
            case 'K': return new int[] {-2, -1, 0, 3, 4};
            case 'D': return new int[] {-1, 0, 2, 3, 4};
            case 't': return new int[] {-1, 0, 1, 2};
            case 'N': return new int[] {-1, 0, 1, 2, 6, 7, 14, 15};
            case 'W': return new int[] {-1, 0, 1, 2, 3};
            case 'w': return new int[] {-1, 0, 1, 100, 101};
            case 'p': return new int[] {-1, 0, 1, 999, 1000, 1001};
            case 'C': return new int[] {-1, 0, 1, 2, 3, 4, 5, 6, 7, 8, 9};
            default: throw new IllegalArgumentException("no such letter: " + letter);
        }
    }

    private void all(String letters, List<Object> given) throws Exception {
        if (given.size() == letters.length()) {
            ask(given.toArray());
            return;
        }
        char letter = letters.charAt(given.size());
        List<Object> edges = new ArrayList<>();
        if (letter == 'o') {
            edges.addAll(List.of(false, true));
        } else {
            for (int edge : edges(letter)) {
                edges.add(edge);
            }
            edges.addAll(List.of(Integer.MIN_VALUE, Integer.MAX_VALUE));
        }
        for (Object edge : edges) {
            given.add(edge);
            all(letters, given);
            given.remove(given.size() - 1);
        }
    }

    private void ask(Object[] arguments) throws Exception {
        if (calls >= MOST_CALLS) {
            renew();
        }
        tell(name, arguments);
        if (due.wrong() > 20) {
            due.end();
        }
    }

    private void tell(String called, Object... arguments) throws Exception {
        calls++;
        due.is(called + Arrays.toString(arguments), Call.answer(tiles, called, arguments),
                Call.answer(model, called, arguments));
    }

    /** Scene 0 is a new object; 1 has rows of all forms and some samples; 2 has 64 ints and 40 samples. */
    private void renew() throws Exception {
        tiles = new FieldTiles();
        model = new Model();
        calls = 0;
        if (scene == 0) {
            return;
        }
        for (int r = 0; r < 18; r++) {
            if (scene == 2 || r != 9) {
                tell("reel", r, scene == 2 ? 2 : r / 3 % 3, scene == 2 || r % 4 != 1 ? 64 : 40);
                tell("paint", r, 0, 39, 10 + r);
                tell("paint", r, 20, 30, 40 - r);
            }
        }
        for (int s = 0; s < (scene == 2 ? 40 : 9); s++) {
            tell("sample", s % 6, 5 * s % 41, s % 4);
        }
        tell("sun", 1, 1, 1);
        tell("put", 3, scene == 2 ? 2 : 1, 9, 950);
        tell("prove", 0, 0, 5);
        tell("prove", 3, 1, 999);
        tell("allow", 0, 3, false);
    }
}

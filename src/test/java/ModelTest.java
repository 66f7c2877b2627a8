import java.util.ArrayList;
import java.util.Arrays;
import java.util.List;
import java.util.Random;

/** All promises: runs of calls that a fixed seed draws, each answer beside that of the Model. */
final class ModelTest {
    private static final int RUNS = 240, CALLS = 500;

    // a call, how often it is drawn, and a letter for each argument (see draw())
    private static final String[] CALLED = {
        "reel 4 rfn", "lose 1 r", "put 40 rfiv", "get 6 rfi", "copy 8 rirjm", "paint 16 rabv",
        "clouds 2 BH", "sun 5 dss", "sky 6 dc", "feature 5 dcF",
        "sample 14 dck", "forget 1", "teaching 4", "grow 5 Dt", "tree 12 NW", "kind 8 dc", "many 6 dK",
        "weigh 5 ww", "smooth 10 dk", "mark 10 c", "allow 6 kko", "path 5 c", "on 8 cd", "changed 3 kk",
        "prove 8 kkp", "area 8 dk", "count 6 C", "digest 4"};

    private final Due due;
    private final Random random;
    private final int form;
    private final int dates;
    private final int[] palette;
    private final List<String> bag = new ArrayList<>();
    private final FieldTiles tiles = new FieldTiles();
    private final Model model = new Model();

    private ModelTest(Due due, long seed) {
        this.due = due;
        random = new Random(seed);
        form = random.nextInt(3);
        dates = 1 + random.nextInt(6);
        int colours = 2 + random.nextInt(7);
        int most = form == 0 ? 127 : random.nextBoolean() ? 1000 : 12;
        palette = new int[colours];
        for (int i = 0; i < colours; i++) {
            palette[i] = random.nextInt(most + 1);
        }
        for (String called : CALLED) {
            int often = Integer.parseInt(called.split(" ")[1]) * (1 + random.nextInt(3));
            for (int n = 0; n < often; n++) {
                bag.add(called);
            }
        }
    }

    public static void main(String[] args) throws Exception {
        Due due = new Due("ModelTest");
        for (int run = 0; run < RUNS && due.wrong() < 20; run++) {
            due.part("run " + run);
            new ModelTest(due, run).runAll();
        }
        due.end();
    }

    private void runAll() throws Exception {
        int calls = 0;
        for (int r = 0; r < 3 * dates; r++) {
            ask("reel", r, form, random.nextInt(6) == 0 ? random.nextInt(65) : 64);
            int strokes = random.nextInt(8);
            for (int n = 0; n < strokes; n++) {
                ask("paint", r, draw('a'), draw('b'), draw('v'));
            }
            calls += 1 + strokes;
        }
        while (calls < CALLS && due.wrong() < 20) {
            String[] called = bag.get(random.nextInt(bag.size())).split(" ");
            String letters = called.length > 2 ? called[2] : "";
            Object[] arguments = new Object[letters.length()];
            for (int i = 0; i < arguments.length; i++) {
                char letter = letters.charAt(i);
                arguments[i] = letter == 'o' ? (Object) random.nextBoolean() : (Object) draw(letter);
            }
            ask(called[0], arguments);
            calls++;
        }
    }

    private void ask(String name, Object... arguments) throws Exception {
        due.is(name + Arrays.toString(arguments), Call.answer(tiles, name, arguments),
                Call.answer(model, name, arguments));
    }

    private int upTo(int least, int most) {
        if (random.nextInt(60) == 0) {
            int[] edges = {least - 1, most + 1, Integer.MIN_VALUE, Integer.MAX_VALUE};
            return edges[random.nextInt(edges.length)];
        }
        return least + random.nextInt(most - least + 1);
    }

    private int value() {
        int luck = random.nextInt(40);
        if (luck == 0) {
            return random.nextInt();
        }
        if (luck == 1) {
            return 890 + random.nextInt(120);
        }
        return luck == 2 ? -1 : palette[random.nextInt(palette.length)];
    }

    private int draw(char letter) {
        switch (letter) {
            case 'r': return random.nextInt(12) == 0 ? upTo(0, 17) : upTo(0, 3 * dates - 1);
            case 'f': return random.nextInt(12) == 0 ? upTo(0, 2) : form;
            case 'n': return random.nextInt(3) == 0 ? upTo(0, 64) : 64;
            case 'i': case 'j': case 'c': return upTo(0, 63);
            case 'm': return upTo(0, 20);
            case 'a': return upTo(0, 30);
            case 'b': return upTo(25, 63);
            case 'v': return value();
            case 'B': return random.nextInt(3) == 0 ? value() : upTo(700, 1000);
            case 'H': return upTo(0, 4);
            case 'd': return random.nextInt(8) == 0 ? upTo(0, 5) : upTo(0, dates - 1);
            case 's': return upTo(-2, 2);
            case 'F': case 'k': return upTo(0, 3);
            case 'K': return upTo(-1, 3);
            case 'D': return random.nextInt(2) == 0 ? 3 : upTo(0, 3);
            case 't': return random.nextInt(4) == 0 ? upTo(0, 1) : 0;
            case 'N': return random.nextInt(2) == 0 ? upTo(0, 6) : upTo(0, 14);
            case 'W': return upTo(0, 2);
            case 'w': return random.nextInt(3) == 0 ? upTo(0, 100) : upTo(0, 6);
            case 'p': return random.nextInt(2) == 0 ? upTo(1, 1000) : upTo(1, 9);
            case 'C': return upTo(0, 8);
            default: throw new IllegalArgumentException("no such letter: " + letter);
        }
    }
}

import java.util.ArrayList;
import java.util.List;
import java.util.Random;

/** Runs of calls by lots, the same ones each time, each answer against that of the Model. */
public final class ModelTest {
    private static final int RUNS = 400;
    private static final int CALLS = 512;
    private static final int[] WILD = {-1, 0, 1, 2, 3, 4, 5, 7, 8, 9, 14, 16, 17, 30, 31, 50, 51, 60, 61, 500, 501,
        999999, 1000000, Integer.MAX_VALUE, Integer.MIN_VALUE, Integer.MAX_VALUE - 1, -1000000001};
    private static final String[] CHANGES = {"letters", "side", "side", "side", "body", "bound", "weight", "weight",
        "weight", "weight", "mirror", "turn", "copy", "drift", "undo", "undo", "set", "set", "set", "wipe", "keep", "goBack"};
    private static final String[] QUESTIONS = {"told", "told", "told", "letter", "back", "space", "space", "pair", "pair",
        "white", "place", "sign", "sign"};

    private final Random lots;
    private final EvenWhite program = new EvenWhite();
    private final Model model = new Model();
    private final List<String> calls = new ArrayList<>();

    private ModelTest(long seed) {
        lots = new Random(seed);
    }

    private int some(int least, int most) {
        if (lots.nextInt(40) == 0) {
            return WILD[lots.nextInt(WILD.length)];
        }
        int edge = lots.nextInt(60);
        if (edge < 2) {
            return edge == 0 ? least - 1 : most + 1;
        }
        return least + lots.nextInt(most - least + 1);
    }

    private int someLetter() {
        return some(0, (int) model.told(0) - 1);
    }

    private boolean call(String name) {
        int a = 0;
        int b = 0;
        int c = 0;
        int d = 0;
        long got;
        long want;
        switch (name) {
            case "letters":
                a = some(1, 3);
                got = program.letters(a);
                want = model.letters(a);
                break;
            case "side":
                a = someLetter();
                b = some(0, 1);
                c = some(0, 7);
                d = some(0, 30);
                got = program.side(a, b, c, d);
                want = model.side(a, b, c, d);
                break;
            case "body":
                a = someLetter();
                b = some(1, 50);
                got = program.body(a, b);
                want = model.body(a, b);
                break;
            case "bound":
                a = some(0, 1);
                b = a == 0 ? some(1, 60) : some(0, 500);
                got = program.bound(a, b);
                want = model.bound(a, b);
                break;
            case "weight":
                a = someLetter();
                b = someLetter();
                c = lots.nextInt(3) == 0 ? 0 : some(0, 4);
                got = program.weight(a, b, c);
                want = model.weight(a, b, c);
                break;
            case "mirror":
                a = someLetter();
                got = program.mirror(a);
                want = model.mirror(a);
                break;
            case "turn":
                got = program.turn();
                want = model.turn();
                break;
            case "copy":
                a = someLetter();
                b = someLetter();
                got = program.copy(a, b);
                want = model.copy(a, b);
                break;
            case "drift":
                a = some(1, 999999);
                got = program.drift(a);
                want = model.drift(a);
                break;
            case "undo":
                got = program.undo();
                want = model.undo();
                break;
            case "told":
                a = some(0, 13);
                got = program.told(a);
                want = model.told(a);
                break;
            case "letter":
                a = someLetter();
                b = some(0, 3);
                got = program.letter(a, b);
                want = model.letter(a, b);
                break;
            case "back":
                a = someLetter();
                b = some(0, 1);
                c = some(0, 7);
                got = program.back(a, b, c);
                want = model.back(a, b, c);
                break;
            case "space":
                a = someLetter();
                b = some(0, 1);
                c = some(0, 3);
                got = program.space(a, b, c);
                want = model.space(a, b, c);
                break;
            case "pair":
                a = someLetter();
                b = someLetter();
                c = some(0, 5);
                got = program.pair(a, b, c);
                want = model.pair(a, b, c);
                break;
            case "white":
                a = someLetter();
                b = someLetter();
                got = program.white(a, b);
                want = model.white(a, b);
                break;
            case "set":
                a = someLetter();
                got = program.set(a);
                want = model.set(a);
                break;
            case "wipe":
                got = program.wipe();
                want = model.wipe();
                break;
            case "place":
                a = some(0, (int) model.told(8));
                got = program.place(a);
                want = model.place(a);
                break;
            case "sign":
                a = some(0, (int) model.told(12));
                got = program.sign(a);
                want = model.sign(a);
                break;
            case "keep":
                a = some(0, 1);
                got = program.keep(a);
                want = model.keep(a);
                break;
            default:
                a = some(0, 1);
                got = program.goBack(a);
                want = model.goBack(a);
                break;
        }
        String text = name + "(" + a + ", " + b + ", " + c + ", " + d + ")";
        calls.add(text + " -> " + want);
        Due.due(text, got, want);
        return got == want;
    }

    /** Some calls are rare: else a run would seldom have a long line, and seldom a past. */
    private boolean passedOver(String name) {
        boolean rare = name.equals("letters") || name.equals("wipe") || name.equals("keep") || name.equals("goBack");
        return rare && lots.nextInt(5) > 0;
    }

    private boolean run() {
        for (int k = 0; k < CALLS; k++) {
            String[] kind = lots.nextInt(5) < 2 ? CHANGES : QUESTIONS;
            String name = kind[lots.nextInt(kind.length)];
            if (!passedOver(name) && !call(name)) {
                return false;
            }
        }
        return true;
    }

    public static void main(String[] args) {
        for (int seed = 1; seed <= RUNS; seed++) {
            ModelTest test = new ModelTest(seed);
            if (!test.run()) {
                System.out.println("run " + seed + ", the last call is wrong:");
                for (String call : test.calls) {
                    System.out.println("  " + call);
                }
                break;
            }
        }
        Due.end();
    }
}

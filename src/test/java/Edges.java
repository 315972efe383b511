import java.lang.reflect.Method;
import java.lang.reflect.Modifier;
import java.util.Arrays;
import java.util.Comparator;
import java.util.function.Supplier;
import java.util.function.ToLongFunction;

/**
 * What the tests of boundary cases have in common. Each such test is a method of its own, named after its
 * promise; run() calls all of them, so that none is forgotten. The tests' classes extend this one to have its
 * names at hand.
 */
abstract class Edges {
    static final int NONE = EvenWhite.NONE, UNKNOWN = EvenWhite.UNKNOWN, OUTSIDE = EvenWhite.OUTSIDE,
        NOT = EvenWhite.NOT, FULL = EvenWhite.FULL;
    static final int LEAST = Integer.MIN_VALUE, MOST = Integer.MAX_VALUE;
    static final int LEFT = 0, RIGHT = 1;

    private static String test = "";

    static void run(Class<?> tests) throws ReflectiveOperationException {
        Method[] methods = tests.getDeclaredMethods();
        Arrays.sort(methods, Comparator.comparing(Method::getName));
        int passed = 0;
        int failed = 0;
        for (Method m : methods) {
            if (m.getName().startsWith("promise") && Modifier.isStatic(m.getModifiers())) {
                int before = Due.wrong();
                test = m.getName();
                m.setAccessible(true);
                m.invoke(null);
                passed += Due.wrong() == before ? 1 : 0;
                failed += Due.wrong() == before ? 0 : 1;
            }
        }
        if (passed + failed == 0) {
            Due.fault(tests.getName() + " has no test");
        }
        System.out.println(passed + " passed, " + failed + " failed");
        Due.end();
    }

    static void due(String call, long got, long want) {
        Due.due(test + ": " + call, got, want);
    }

    static void same(String what, String got, String want) {
        if (got.equals(want)) {
            due(what, 0, 0);
        } else {
            Due.fault(test + ": " + what + " is\n  " + got + "\n  due is\n  " + want);
        }
    }

    static void fraction(String what, long above, long below, long wantAbove, long wantBelow) {
        due(what + ", above", above, wantAbove);
        due(what + ", below", below, wantBelow);
    }

    static void space(EvenWhite x, int letter, int side, long above, long below) {
        fraction("space of " + letter + " at " + side, x.space(letter, side, 0), x.space(letter, side, 1), above, below);
    }

    static void wide(EvenWhite x, long above, long below) {
        fraction("wide", x.told(9), x.told(10), above, below);
    }

    static void squares(EvenWhite x, long above, long below) {
        fraction("squares", x.told(5), x.told(6), above, below);
    }

    /** Whole spaces in the order of the document: right of all letters, then left of all letters. */
    static void whole(EvenWhite x, long... want) {
        for (int k = 0; k < want.length; k++) {
            int letter = k % (want.length / 2);
            int side = k < want.length / 2 ? RIGHT : LEFT;
            due("whole space of " + letter + " at " + side, x.space(letter, side, 3), want[k]);
        }
    }

    /** Which spaces are open, in the order of the document. */
    static void open(EvenWhite x, long... want) {
        for (int k = 0; k < want.length; k++) {
            int letter = k % (want.length / 2);
            int side = k < want.length / 2 ? RIGHT : LEFT;
            due("open, space of " + letter + " at " + side, x.space(letter, side, 2), want[k]);
        }
        due("open spaces", x.told(7), Arrays.stream(want).sum());
    }

    static EvenWhite of(int letters) {
        EvenWhite x = new EvenWhite();
        x.letters(letters);
        return x;
    }

    static EvenWhite line(EvenWhite x, int... letters) {
        x.wipe();
        for (int letter : letters) {
            x.set(letter);
        }
        return x;
    }

    static EvenWhite back(EvenWhite x, int letter, int side, int... v) {
        for (int height = 0; height < v.length; height++) {
            x.side(letter, side, height, v[height]);
        }
        return x;
    }

    /** All sides of a letter go back by as much at all heights. */
    static EvenWhite backAll(EvenWhite x, int letter, int v) {
        for (int side = LEFT; side <= RIGHT; side++) {
            back(x, letter, side, v, v, v, v, v, v, v, v);
        }
        return x;
    }

    /** A weight of 1 for each letter behind itself, none for others: the space right of each is (W less BARE) by 8. */
    static EvenWhite eachAlone(int letters, int wanted) {
        EvenWhite x = of(letters);
        x.bound(1, wanted);
        for (int i = 0; i < letters; i++) {
            x.weight(i, i, 1);
        }
        return x;
    }

    /**
     * Two letters, all weights 1, of which not all pairs can have the same white: at height 0 both sides of
     * letter 0 go back by deep, and D is deep, so that BARE is deep for the pairs 00, 01, 10, and 0 for 11.
     */
    static EvenWhite uneven(int deep) {
        EvenWhite x = new EvenWhite();
        x.bound(0, deep);
        x.side(0, LEFT, 0, deep);
        x.side(0, RIGHT, 0, deep);
        for (int k = 0; k < 4; k++) {
            x.weight(k / 2, k % 2, 1);
        }
        return x;
    }

    /**
     * BARE of letter 0 behind itself is 480, and this pair alone has a weight; W is 0. So right of 0 is -60, and
     * the white of letter 1 behind 0 is -240, of 0 behind 1 it is 240.
     */
    static EvenWhite deep() {
        EvenWhite x = backAll(new EvenWhite(), 0, 30);
        x.bound(0, 60);
        x.bound(1, 0);
        x.weight(0, 0, 1);
        return x;
    }

    static String written(EvenWhite x) {
        StringBuilder text = new StringBuilder();
        int many = (int) x.told(12);
        for (int i = 0; i < many; i++) {
            text.append((char) x.sign(i));
        }
        due("sign behind " + text, x.sign(many), NONE);
        return text.toString();
    }

    /** All of section 1 of the document. */
    static String section1(EvenWhite x) {
        int n = (int) x.told(0);
        StringBuilder text = new StringBuilder(n + " D " + x.told(1) + " W " + x.told(2));
        for (int i = 0; i < n; i++) {
            text.append(" | body ").append(x.letter(i, 0));
            for (int k = 0; k < 16; k++) {
                text.append(k % 8 == 0 ? " side " : " ").append(x.back(i, k / 8, k % 8));
            }
            for (int j = 0; j < n; j++) {
                text.append(j == 0 ? " weights " : " ").append(x.pair(i, j, 0));
            }
        }
        return text.toString();
    }

    /** All that an object answers without being changed by it: some 250 calls for three letters. */
    static String everything(EvenWhite x) {
        int n = (int) x.told(0);
        StringBuilder text = new StringBuilder(section1(x)).append(" | told");
        for (int what = 3; what < 14; what++) {
            text.append(' ').append(x.told(what));
        }
        for (int i = 0; i < n; i++) {
            text.append(" | ").append(x.letter(i, 1)).append(' ').append(x.letter(i, 2)).append(' ').append(x.letter(i, 3));
            for (int k = 0; k < 8; k++) {
                text.append(k % 4 == 0 ? " space " : " ").append(x.space(i, k / 4, k % 4));
            }
        }
        for (int k = 0; k < n * n; k++) {
            text.append(" | ").append(x.white(k / n, k % n));
            for (int what = 1; what < 6; what++) {
                text.append(' ').append(x.pair(k / n, k % n, what));
            }
        }
        text.append(" | ");
        for (int i = 0; x.place(i) >= 0; i++) {
            text.append(x.place(i));
        }
        return text.append(' ').append(written(x)).toString();
    }

    /**
     * Three letters, a full line, as much past as is kept, image 0 kept and not image 1: whatever a refused
     * call might touch is there.
     */
    static EvenWhite rich() {
        EvenWhite x = of(3);
        x.drift(4711);
        x.body(2, 33);
        x.keep(0);
        x.drift(815);
        x.bound(0, 25);
        x.bound(1, 222);
        x.body(0, 7);
        x.body(1, 21);
        x.side(0, RIGHT, 3, 17);
        x.weight(1, 2, 4);
        x.copy(2, 0);
        x.mirror(2);
        x.drift(77);
        for (int i = 0; i < 16; i++) {
            x.set(i * i % 3);
        }
        return x;
    }

    /** The call is refused, and the object is as one without it: what is seen, what is undone, what is kept. */
    static void refused(String call, ToLongFunction<EvenWhite> asked, long want) {
        refused(call, Edges::rich, asked, want);
    }

    /** Each look at an object is at a new one: an object is good for 512 calls. */
    static void refused(String call, Supplier<EvenWhite> scene, ToLongFunction<EvenWhite> asked, long want) {
        EvenWhite x = scene.get();
        int past = (int) x.told(13);
        due(call, asked.applyAsLong(x), want);
        same("all behind " + call, everything(x), everything(scene.get()));
        for (int times = 1; times <= past; times++) {
            same("all, undone " + times + " times behind " + call, section1(undone(touched(scene, asked), times)),
                section1(undone(scene.get(), times)));
        }
        for (int i = 0; i < 2; i++) {
            EvenWhite there = touched(scene, asked);
            EvenWhite twin = scene.get();
            due("goBack(" + i + ") behind " + call, there.goBack(i), twin.goBack(i));
            same("image " + i + " behind " + call, section1(there), section1(twin));
        }
    }

    private static EvenWhite touched(Supplier<EvenWhite> scene, ToLongFunction<EvenWhite> asked) {
        EvenWhite x = scene.get();
        asked.applyAsLong(x);
        return x;
    }

    static EvenWhite undone(EvenWhite x, int times) {
        for (int k = 0; k < times; k++) {
            x.undo();
        }
        return x;
    }
}
